section
-- ===== PART A: goes FIRST, ahead of the names: the tables' words, and 'selects' of the private methods out of them =====
/-- a private method of a class that the tables say can be made, by its rows of tables_1 -/
def lw_okq (q : MethodName × Nat) : Prop := (q.1.cls ≠ "java/lang/invoke/MethodHandle" ∧ q.1.cls ≠ "java/lang/invoke/VarHandle") ∧ Cond.instantiable q.1.cls q.2 ∈ tables_1 ∧ Cond.privateMethod q.1 ∈ tables_1 ∧ Cond.instanceMethod q.1 ∈ tables_1
theorem lw_p0 : lw_okq (⟨"NextHouseUp$Tape", "advance", "()V"⟩, 8) := ⟨⟨by decide +kernel, by decide +kernel⟩, List.mem_of_getElem? (i := 71) (by decide +kernel), List.mem_of_getElem? (i := 164) (by decide +kernel), List.mem_of_getElem? (i := 165) (by decide +kernel)⟩
theorem lw_p1 : lw_okq (⟨"NextHouseUp$Tape", "byteAt", "(I)I"⟩, 8) := ⟨⟨by decide +kernel, by decide +kernel⟩, List.mem_of_getElem? (i := 71) (by decide +kernel), List.mem_of_getElem? (i := 168) (by decide +kernel), List.mem_of_getElem? (i := 169) (by decide +kernel)⟩
theorem lw_p2 : lw_okq (⟨"NextHouseUp$Tape", "readWord", "()V"⟩, 8) := ⟨⟨by decide +kernel, by decide +kernel⟩, List.mem_of_getElem? (i := 71) (by decide +kernel), List.mem_of_getElem? (i := 178) (by decide +kernel), List.mem_of_getElem? (i := 179) (by decide +kernel)⟩
theorem lw_p3 : lw_okq (⟨"NextHouseUp$Tape", "stands", "(Ljava/lang/String;)Z"⟩, 8) := ⟨⟨by decide +kernel, by decide +kernel⟩, List.mem_of_getElem? (i := 71) (by decide +kernel), List.mem_of_getElem? (i := 197) (by decide +kernel), List.mem_of_getElem? (i := 198) (by decide +kernel)⟩
theorem lw_p4 : lw_okq (⟨"NextHouseUp$Tape", "readNumber", "()V"⟩, 8) := ⟨⟨by decide +kernel, by decide +kernel⟩, List.mem_of_getElem? (i := 71) (by decide +kernel), List.mem_of_getElem? (i := 204) (by decide +kernel), List.mem_of_getElem? (i := 205) (by decide +kernel)⟩
theorem lw_p5 : lw_okq (⟨"NextHouseUp$Tape", "expect", "(I)V"⟩, 8) := ⟨⟨by decide +kernel, by decide +kernel⟩, List.mem_of_getElem? (i := 71) (by decide +kernel), List.mem_of_getElem? (i := 219) (by decide +kernel), List.mem_of_getElem? (i := 220) (by decide +kernel)⟩
theorem lw_p6 : lw_okq (⟨"NextHouseUp$Tape", "refuse", "()V"⟩, 8) := ⟨⟨by decide +kernel, by decide +kernel⟩, List.mem_of_getElem? (i := 71) (by decide +kernel), List.mem_of_getElem? (i := 223) (by decide +kernel), List.mem_of_getElem? (i := 224) (by decide +kernel)⟩
theorem lw_p7 : lw_okq (⟨"NextHouseUp$Tape", "readOr", "(I)V"⟩, 8) := ⟨⟨by decide +kernel, by decide +kernel⟩, List.mem_of_getElem? (i := 71) (by decide +kernel), List.mem_of_getElem? (i := 227) (by decide +kernel), List.mem_of_getElem? (i := 228) (by decide +kernel)⟩
theorem lw_p8 : lw_okq (⟨"NextHouseUp$Tape", "readAnd", "(I)V"⟩, 8) := ⟨⟨by decide +kernel, by decide +kernel⟩, List.mem_of_getElem? (i := 71) (by decide +kernel), List.mem_of_getElem? (i := 231) (by decide +kernel), List.mem_of_getElem? (i := 232) (by decide +kernel)⟩
theorem lw_p9 : lw_okq (⟨"NextHouseUp$Tape", "readNot", "(I)V"⟩, 8) := ⟨⟨by decide +kernel, by decide +kernel⟩, List.mem_of_getElem? (i := 71) (by decide +kernel), List.mem_of_getElem? (i := 235) (by decide +kernel), List.mem_of_getElem? (i := 236) (by decide +kernel)⟩
theorem lw_p10 : lw_okq (⟨"NextHouseUp$Tape", "opens", "(I)Z"⟩, 8) := ⟨⟨by decide +kernel, by decide +kernel⟩, List.mem_of_getElem? (i := 71) (by decide +kernel), List.mem_of_getElem? (i := 239) (by decide +kernel), List.mem_of_getElem? (i := 240) (by decide +kernel)⟩
theorem lw_p11 : lw_okq (⟨"NextHouseUp$Tape", "readSum", "(I)V"⟩, 8) := ⟨⟨by decide +kernel, by decide +kernel⟩, List.mem_of_getElem? (i := 71) (by decide +kernel), List.mem_of_getElem? (i := 247) (by decide +kernel), List.mem_of_getElem? (i := 248) (by decide +kernel)⟩
theorem lw_p12 : lw_okq (⟨"NextHouseUp$Tape", "readTerm", "(I)V"⟩, 8) := ⟨⟨by decide +kernel, by decide +kernel⟩, List.mem_of_getElem? (i := 71) (by decide +kernel), List.mem_of_getElem? (i := 251) (by decide +kernel), List.mem_of_getElem? (i := 252) (by decide +kernel)⟩
theorem lw_p13 : lw_okq (⟨"NextHouseUp$Tape", "readOne", "(I)V"⟩, 8) := ⟨⟨by decide +kernel, by decide +kernel⟩, List.mem_of_getElem? (i := 71) (by decide +kernel), List.mem_of_getElem? (i := 255) (by decide +kernel), List.mem_of_getElem? (i := 256) (by decide +kernel)⟩
theorem lw_p14 : lw_okq (⟨"NextHouseUp", "toldOfLetter", "(II)I"⟩, 8) := ⟨⟨by decide +kernel, by decide +kernel⟩, List.mem_of_getElem? (i := 15) (by decide +kernel), List.mem_of_getElem? (i := 384) (by decide +kernel), List.mem_of_getElem? (i := 385) (by decide +kernel)⟩
theorem lw_p15 : lw_okq (⟨"NextHouseUp", "toldOfOne", "(II)I"⟩, 8) := ⟨⟨by decide +kernel, by decide +kernel⟩, List.mem_of_getElem? (i := 15) (by decide +kernel), List.mem_of_getElem? (i := 413) (by decide +kernel), List.mem_of_getElem? (i := 414) (by decide +kernel)⟩
def lw_privs_1 : List (MethodName × Nat) := [(⟨"NextHouseUp$Tape", "advance", "()V"⟩, 8), (⟨"NextHouseUp$Tape", "byteAt", "(I)I"⟩, 8), (⟨"NextHouseUp$Tape", "readWord", "()V"⟩, 8), (⟨"NextHouseUp$Tape", "stands", "(Ljava/lang/String;)Z"⟩, 8), (⟨"NextHouseUp$Tape", "readNumber", "()V"⟩, 8), (⟨"NextHouseUp$Tape", "expect", "(I)V"⟩, 8), (⟨"NextHouseUp$Tape", "refuse", "()V"⟩, 8), (⟨"NextHouseUp$Tape", "readOr", "(I)V"⟩, 8), (⟨"NextHouseUp$Tape", "readAnd", "(I)V"⟩, 8), (⟨"NextHouseUp$Tape", "readNot", "(I)V"⟩, 8), (⟨"NextHouseUp$Tape", "opens", "(I)Z"⟩, 8), (⟨"NextHouseUp$Tape", "readSum", "(I)V"⟩, 8), (⟨"NextHouseUp$Tape", "readTerm", "(I)V"⟩, 8), (⟨"NextHouseUp$Tape", "readOne", "(I)V"⟩, 8), (⟨"NextHouseUp", "toldOfLetter", "(II)I"⟩, 8), (⟨"NextHouseUp", "toldOfOne", "(II)I"⟩, 8)]
theorem lw_r1 : ∀ q ∈ lw_privs_1, lw_okq q := List.forall_mem_cons.mpr ⟨lw_p0, List.forall_mem_cons.mpr ⟨lw_p1, List.forall_mem_cons.mpr ⟨lw_p2, List.forall_mem_cons.mpr ⟨lw_p3, List.forall_mem_cons.mpr ⟨lw_p4, List.forall_mem_cons.mpr ⟨lw_p5, List.forall_mem_cons.mpr ⟨lw_p6, List.forall_mem_cons.mpr ⟨lw_p7, List.forall_mem_cons.mpr ⟨lw_p8, List.forall_mem_cons.mpr ⟨lw_p9, List.forall_mem_cons.mpr ⟨lw_p10, List.forall_mem_cons.mpr ⟨lw_p11, List.forall_mem_cons.mpr ⟨lw_p12, List.forall_mem_cons.mpr ⟨lw_p13, List.forall_mem_cons.mpr ⟨lw_p14, List.forall_mem_cons.mpr ⟨lw_p15, fun _ h => absurd h List.not_mem_nil⟩⟩⟩⟩⟩⟩⟩⟩⟩⟩⟩⟩⟩⟩⟩⟩
theorem lw_p16 : lw_okq (⟨"NextHouseUp$Village", "ruled", "(III)I"⟩, 15) := ⟨⟨by decide +kernel, by decide +kernel⟩, List.mem_of_getElem? (i := 267) (by decide +kernel), List.mem_of_getElem? (i := 478) (by decide +kernel), List.mem_of_getElem? (i := 479) (by decide +kernel)⟩
theorem lw_p17 : lw_okq (⟨"NextHouseUp$Texts", "named", "(I)I"⟩, 11) := ⟨⟨by decide +kernel, by decide +kernel⟩, List.mem_of_getElem? (i := 23) (by decide +kernel), List.mem_of_getElem? (i := 503) (by decide +kernel), List.mem_of_getElem? (i := 504) (by decide +kernel)⟩
theorem lw_p18 : lw_okq (⟨"NextHouseUp$Village", "goesDown", "(I)Z"⟩, 15) := ⟨⟨by decide +kernel, by decide +kernel⟩, List.mem_of_getElem? (i := 267) (by decide +kernel), List.mem_of_getElem? (i := 561) (by decide +kernel), List.mem_of_getElem? (i := 562) (by decide +kernel)⟩
theorem lw_p19 : lw_okq (⟨"NextHouseUp", "firstWay", "()V"⟩, 8) := ⟨⟨by decide +kernel, by decide +kernel⟩, List.mem_of_getElem? (i := 15) (by decide +kernel), List.mem_of_getElem? (i := 605) (by decide +kernel), List.mem_of_getElem? (i := 606) (by decide +kernel)⟩
theorem lw_p20 : lw_okq (⟨"NextHouseUp", "moveByWay", "()V"⟩, 8) := ⟨⟨by decide +kernel, by decide +kernel⟩, List.mem_of_getElem? (i := 15) (by decide +kernel), List.mem_of_getElem? (i := 609) (by decide +kernel), List.mem_of_getElem? (i := 610) (by decide +kernel)⟩
theorem lw_p21 : lw_okq (⟨"NextHouseUp", "digitsOfWay", "()I"⟩, 8) := ⟨⟨by decide +kernel, by decide +kernel⟩, List.mem_of_getElem? (i := 15) (by decide +kernel), List.mem_of_getElem? (i := 613) (by decide +kernel), List.mem_of_getElem? (i := 614) (by decide +kernel)⟩
theorem lw_p22 : lw_okq (⟨"NextHouseUp", "nextWay", "()Z"⟩, 8) := ⟨⟨by decide +kernel, by decide +kernel⟩, List.mem_of_getElem? (i := 15) (by decide +kernel), List.mem_of_getElem? (i := 617) (by decide +kernel), List.mem_of_getElem? (i := 618) (by decide +kernel)⟩
theorem lw_p23 : lw_okq (⟨"NextHouseUp", "exchange", "(II)V"⟩, 8) := ⟨⟨by decide +kernel, by decide +kernel⟩, List.mem_of_getElem? (i := 15) (by decide +kernel), List.mem_of_getElem? (i := 622) (by decide +kernel), List.mem_of_getElem? (i := 623) (by decide +kernel)⟩
theorem lw_p24 : lw_okq (⟨"NextHouseUp", "sheetNumbered", "(I)LNextHouseUp$Sheet;"⟩, 8) := ⟨⟨by decide +kernel, by decide +kernel⟩, List.mem_of_getElem? (i := 15) (by decide +kernel), List.mem_of_getElem? (i := 656) (by decide +kernel), List.mem_of_getElem? (i := 657) (by decide +kernel)⟩
theorem lw_p25 : lw_okq (⟨"NextHouseUp", "allSo", "(LNextHouseUp$Sheet;IIII)I"⟩, 8) := ⟨⟨by decide +kernel, by decide +kernel⟩, List.mem_of_getElem? (i := 15) (by decide +kernel), List.mem_of_getElem? (i := 677) (by decide +kernel), List.mem_of_getElem? (i := 678) (by decide +kernel)⟩
theorem lw_p26 : lw_okq (⟨"NextHouseUp", "daysSo", "(LNextHouseUp$Sheet;IZ)I"⟩, 8) := ⟨⟨by decide +kernel, by decide +kernel⟩, List.mem_of_getElem? (i := 15) (by decide +kernel), List.mem_of_getElem? (i := 685) (by decide +kernel), List.mem_of_getElem? (i := 686) (by decide +kernel)⟩
theorem lw_p27 : lw_okq (⟨"NextHouseUp", "lettersSo", "(LNextHouseUp$Sheet;)I"⟩, 8) := ⟨⟨by decide +kernel, by decide +kernel⟩, List.mem_of_getElem? (i := 15) (by decide +kernel), List.mem_of_getElem? (i := 689) (by decide +kernel), List.mem_of_getElem? (i := 690) (by decide +kernel)⟩
theorem lw_p28 : lw_okq (⟨"NextHouseUp", "homesDrawn", "(II)I"⟩, 8) := ⟨⟨by decide +kernel, by decide +kernel⟩, List.mem_of_getElem? (i := 15) (by decide +kernel), List.mem_of_getElem? (i := 711) (by decide +kernel), List.mem_of_getElem? (i := 712) (by decide +kernel)⟩
theorem lw_p29 : lw_okq (⟨"NextHouseUpModel", "spell", "(IIIIIIIII)V"⟩, 44) := ⟨⟨by decide +kernel, by decide +kernel⟩, List.mem_of_getElem? (i := 767) (by decide +kernel), List.mem_of_getElem? (i := 773) (by decide +kernel), List.mem_of_getElem? (i := 774) (by decide +kernel)⟩
theorem lw_p30 : lw_okq (⟨"NextHouseUpModel", "isOf", "(II)Z"⟩, 44) := ⟨⟨by decide +kernel, by decide +kernel⟩, List.mem_of_getElem? (i := 767) (by decide +kernel), List.mem_of_getElem? (i := 918) (by decide +kernel), List.mem_of_getElem? (i := 919) (by decide +kernel)⟩
theorem lw_p31 : lw_okq (⟨"NextHouseUpModel", "isLetter", "(I)Z"⟩, 44) := ⟨⟨by decide +kernel, by decide +kernel⟩, List.mem_of_getElem? (i := 767) (by decide +kernel), List.mem_of_getElem? (i := 922) (by decide +kernel), List.mem_of_getElem? (i := 923) (by decide +kernel)⟩
def lw_privs_2 : List (MethodName × Nat) := [(⟨"NextHouseUp$Village", "ruled", "(III)I"⟩, 15), (⟨"NextHouseUp$Texts", "named", "(I)I"⟩, 11), (⟨"NextHouseUp$Village", "goesDown", "(I)Z"⟩, 15), (⟨"NextHouseUp", "firstWay", "()V"⟩, 8), (⟨"NextHouseUp", "moveByWay", "()V"⟩, 8), (⟨"NextHouseUp", "digitsOfWay", "()I"⟩, 8), (⟨"NextHouseUp", "nextWay", "()Z"⟩, 8), (⟨"NextHouseUp", "exchange", "(II)V"⟩, 8), (⟨"NextHouseUp", "sheetNumbered", "(I)LNextHouseUp$Sheet;"⟩, 8), (⟨"NextHouseUp", "allSo", "(LNextHouseUp$Sheet;IIII)I"⟩, 8), (⟨"NextHouseUp", "daysSo", "(LNextHouseUp$Sheet;IZ)I"⟩, 8), (⟨"NextHouseUp", "lettersSo", "(LNextHouseUp$Sheet;)I"⟩, 8), (⟨"NextHouseUp", "homesDrawn", "(II)I"⟩, 8), (⟨"NextHouseUpModel", "spell", "(IIIIIIIII)V"⟩, 44), (⟨"NextHouseUpModel", "isOf", "(II)Z"⟩, 44), (⟨"NextHouseUpModel", "isLetter", "(I)Z"⟩, 44)]
theorem lw_r2 : ∀ q ∈ lw_privs_2, lw_okq q := List.forall_mem_cons.mpr ⟨lw_p16, List.forall_mem_cons.mpr ⟨lw_p17, List.forall_mem_cons.mpr ⟨lw_p18, List.forall_mem_cons.mpr ⟨lw_p19, List.forall_mem_cons.mpr ⟨lw_p20, List.forall_mem_cons.mpr ⟨lw_p21, List.forall_mem_cons.mpr ⟨lw_p22, List.forall_mem_cons.mpr ⟨lw_p23, List.forall_mem_cons.mpr ⟨lw_p24, List.forall_mem_cons.mpr ⟨lw_p25, List.forall_mem_cons.mpr ⟨lw_p26, List.forall_mem_cons.mpr ⟨lw_p27, List.forall_mem_cons.mpr ⟨lw_p28, List.forall_mem_cons.mpr ⟨lw_p29, List.forall_mem_cons.mpr ⟨lw_p30, List.forall_mem_cons.mpr ⟨lw_p31, fun _ h => absurd h List.not_mem_nil⟩⟩⟩⟩⟩⟩⟩⟩⟩⟩⟩⟩⟩⟩⟩⟩
theorem lw_p32 : lw_okq (⟨"NextHouseUpModel", "isOne", "(I)Z"⟩, 44) := ⟨⟨by decide +kernel, by decide +kernel⟩, List.mem_of_getElem? (i := 767) (by decide +kernel), List.mem_of_getElem? (i := 926) (by decide +kernel), List.mem_of_getElem? (i := 927) (by decide +kernel)⟩
theorem lw_p33 : lw_okq (⟨"NextHouseUpModel", "known", "(I)I"⟩, 44) := ⟨⟨by decide +kernel, by decide +kernel⟩, List.mem_of_getElem? (i := 767) (by decide +kernel), List.mem_of_getElem? (i := 938) (by decide +kernel), List.mem_of_getElem? (i := 939) (by decide +kernel)⟩
theorem lw_p34 : lw_okq (⟨"NextHouseUpModel", "lays", "(III)V"⟩, 44) := ⟨⟨by decide +kernel, by decide +kernel⟩, List.mem_of_getElem? (i := 767) (by decide +kernel), List.mem_of_getElem? (i := 942) (by decide +kernel), List.mem_of_getElem? (i := 943) (by decide +kernel)⟩
theorem lw_p35 : lw_okq (⟨"NextHouseUpModel", "whoIn", "(I)I"⟩, 44) := ⟨⟨by decide +kernel, by decide +kernel⟩, List.mem_of_getElem? (i := 767) (by decide +kernel), List.mem_of_getElem? (i := 953) (by decide +kernel), List.mem_of_getElem? (i := 954) (by decide +kernel)⟩
theorem lw_p36 : lw_okq (⟨"NextHouseUpModel", "areTwo", "(II)Z"⟩, 44) := ⟨⟨by decide +kernel, by decide +kernel⟩, List.mem_of_getElem? (i := 767) (by decide +kernel), List.mem_of_getElem? (i := 961) (by decide +kernel), List.mem_of_getElem? (i := 962) (by decide +kernel)⟩
theorem lw_p37 : lw_okq (⟨"NextHouseUpModel", "read", "(II)I"⟩, 44) := ⟨⟨by decide +kernel, by decide +kernel⟩, List.mem_of_getElem? (i := 767) (by decide +kernel), List.mem_of_getElem? (i := 975) (by decide +kernel), List.mem_of_getElem? (i := 976) (by decide +kernel)⟩
theorem lw_p38 : lw_okq (⟨"NextHouseUpModel", "next", "()V"⟩, 44) := ⟨⟨by decide +kernel, by decide +kernel⟩, List.mem_of_getElem? (i := 767) (by decide +kernel), List.mem_of_getElem? (i := 979) (by decide +kernel), List.mem_of_getElem? (i := 980) (by decide +kernel)⟩
theorem lw_p39 : lw_okq (⟨"NextHouseUpModel", "byteAt", "(I)I"⟩, 44) := ⟨⟨by decide +kernel, by decide +kernel⟩, List.mem_of_getElem? (i := 767) (by decide +kernel), List.mem_of_getElem? (i := 983) (by decide +kernel), List.mem_of_getElem? (i := 984) (by decide +kernel)⟩
theorem lw_p40 : lw_okq (⟨"NextHouseUpModel", "isWord", "(IIIIIIII)Z"⟩, 44) := ⟨⟨by decide +kernel, by decide +kernel⟩, List.mem_of_getElem? (i := 767) (by decide +kernel), List.mem_of_getElem? (i := 991) (by decide +kernel), List.mem_of_getElem? (i := 992) (by decide +kernel)⟩
theorem lw_p41 : lw_okq (⟨"NextHouseUpModel", "isLetter", "(II)Z"⟩, 44) := ⟨⟨by decide +kernel, by decide +kernel⟩, List.mem_of_getElem? (i := 767) (by decide +kernel), List.mem_of_getElem? (i := 995) (by decide +kernel), List.mem_of_getElem? (i := 996) (by decide +kernel)⟩
theorem lw_p42 : lw_okq (⟨"NextHouseUpModel", "part", "(Z)I"⟩, 44) := ⟨⟨by decide +kernel, by decide +kernel⟩, List.mem_of_getElem? (i := 767) (by decide +kernel), List.mem_of_getElem? (i := 999) (by decide +kernel), List.mem_of_getElem? (i := 1000) (by decide +kernel)⟩
theorem lw_p43 : lw_okq (⟨"NextHouseUpModel", "fail", "()V"⟩, 44) := ⟨⟨by decide +kernel, by decide +kernel⟩, List.mem_of_getElem? (i := 767) (by decide +kernel), List.mem_of_getElem? (i := 1003) (by decide +kernel), List.mem_of_getElem? (i := 1004) (by decide +kernel)⟩
theorem lw_p44 : lw_okq (⟨"NextHouseUpModel", "either", "()I"⟩, 44) := ⟨⟨by decide +kernel, by decide +kernel⟩, List.mem_of_getElem? (i := 767) (by decide +kernel), List.mem_of_getElem? (i := 1007) (by decide +kernel), List.mem_of_getElem? (i := 1008) (by decide +kernel)⟩
theorem lw_p45 : lw_okq (⟨"NextHouseUpModel", "both", "()I"⟩, 44) := ⟨⟨by decide +kernel, by decide +kernel⟩, List.mem_of_getElem? (i := 767) (by decide +kernel), List.mem_of_getElem? (i := 1011) (by decide +kernel), List.mem_of_getElem? (i := 1012) (by decide +kernel)⟩
theorem lw_p46 : lw_okq (⟨"NextHouseUpModel", "not", "()I"⟩, 44) := ⟨⟨by decide +kernel, by decide +kernel⟩, List.mem_of_getElem? (i := 767) (by decide +kernel), List.mem_of_getElem? (i := 1015) (by decide +kernel), List.mem_of_getElem? (i := 1016) (by decide +kernel)⟩
theorem lw_p47 : lw_okq (⟨"NextHouseUpModel", "opens", "()Z"⟩, 44) := ⟨⟨by decide +kernel, by decide +kernel⟩, List.mem_of_getElem? (i := 767) (by decide +kernel), List.mem_of_getElem? (i := 1019) (by decide +kernel), List.mem_of_getElem? (i := 1020) (by decide +kernel)⟩
def lw_privs_3 : List (MethodName × Nat) := [(⟨"NextHouseUpModel", "isOne", "(I)Z"⟩, 44), (⟨"NextHouseUpModel", "known", "(I)I"⟩, 44), (⟨"NextHouseUpModel", "lays", "(III)V"⟩, 44), (⟨"NextHouseUpModel", "whoIn", "(I)I"⟩, 44), (⟨"NextHouseUpModel", "areTwo", "(II)Z"⟩, 44), (⟨"NextHouseUpModel", "read", "(II)I"⟩, 44), (⟨"NextHouseUpModel", "next", "()V"⟩, 44), (⟨"NextHouseUpModel", "byteAt", "(I)I"⟩, 44), (⟨"NextHouseUpModel", "isWord", "(IIIIIIII)Z"⟩, 44), (⟨"NextHouseUpModel", "isLetter", "(II)Z"⟩, 44), (⟨"NextHouseUpModel", "part", "(Z)I"⟩, 44), (⟨"NextHouseUpModel", "fail", "()V"⟩, 44), (⟨"NextHouseUpModel", "either", "()I"⟩, 44), (⟨"NextHouseUpModel", "both", "()I"⟩, 44), (⟨"NextHouseUpModel", "not", "()I"⟩, 44), (⟨"NextHouseUpModel", "opens", "()Z"⟩, 44)]
theorem lw_r3 : ∀ q ∈ lw_privs_3, lw_okq q := List.forall_mem_cons.mpr ⟨lw_p32, List.forall_mem_cons.mpr ⟨lw_p33, List.forall_mem_cons.mpr ⟨lw_p34, List.forall_mem_cons.mpr ⟨lw_p35, List.forall_mem_cons.mpr ⟨lw_p36, List.forall_mem_cons.mpr ⟨lw_p37, List.forall_mem_cons.mpr ⟨lw_p38, List.forall_mem_cons.mpr ⟨lw_p39, List.forall_mem_cons.mpr ⟨lw_p40, List.forall_mem_cons.mpr ⟨lw_p41, List.forall_mem_cons.mpr ⟨lw_p42, List.forall_mem_cons.mpr ⟨lw_p43, List.forall_mem_cons.mpr ⟨lw_p44, List.forall_mem_cons.mpr ⟨lw_p45, List.forall_mem_cons.mpr ⟨lw_p46, List.forall_mem_cons.mpr ⟨lw_p47, fun _ h => absurd h List.not_mem_nil⟩⟩⟩⟩⟩⟩⟩⟩⟩⟩⟩⟩⟩⟩⟩⟩
theorem lw_p48 : lw_okq (⟨"NextHouseUpModel", "added", "()I"⟩, 44) := ⟨⟨by decide +kernel, by decide +kernel⟩, List.mem_of_getElem? (i := 767) (by decide +kernel), List.mem_of_getElem? (i := 1023) (by decide +kernel), List.mem_of_getElem? (i := 1024) (by decide +kernel)⟩
theorem lw_p49 : lw_okq (⟨"NextHouseUpModel", "term", "()I"⟩, 44) := ⟨⟨by decide +kernel, by decide +kernel⟩, List.mem_of_getElem? (i := 767) (by decide +kernel), List.mem_of_getElem? (i := 1027) (by decide +kernel), List.mem_of_getElem? (i := 1028) (by decide +kernel)⟩
theorem lw_p50 : lw_okq (⟨"NextHouseUpModel", "atom", "()I"⟩, 44) := ⟨⟨by decide +kernel, by decide +kernel⟩, List.mem_of_getElem? (i := 767) (by decide +kernel), List.mem_of_getElem? (i := 1031) (by decide +kernel), List.mem_of_getElem? (i := 1032) (by decide +kernel)⟩
theorem lw_p51 : lw_okq (⟨"NextHouseUpModel", "isSign", "(I)Z"⟩, 44) := ⟨⟨by decide +kernel, by decide +kernel⟩, List.mem_of_getElem? (i := 767) (by decide +kernel), List.mem_of_getElem? (i := 1035) (by decide +kernel), List.mem_of_getElem? (i := 1036) (by decide +kernel)⟩
theorem lw_p52 : lw_okq (⟨"NextHouseUpModel", "name", "()I"⟩, 44) := ⟨⟨by decide +kernel, by decide +kernel⟩, List.mem_of_getElem? (i := 767) (by decide +kernel), List.mem_of_getElem? (i := 1039) (by decide +kernel), List.mem_of_getElem? (i := 1040) (by decide +kernel)⟩
theorem lw_p53 : lw_okq (⟨"NextHouseUpModel", "softens", "(II)I"⟩, 44) := ⟨⟨by decide +kernel, by decide +kernel⟩, List.mem_of_getElem? (i := 767) (by decide +kernel), List.mem_of_getElem? (i := 1053) (by decide +kernel), List.mem_of_getElem? (i := 1054) (by decide +kernel)⟩
theorem lw_p54 : lw_okq (⟨"NextHouseUpModel", "says", "(III)I"⟩, 44) := ⟨⟨by decide +kernel, by decide +kernel⟩, List.mem_of_getElem? (i := 767) (by decide +kernel), List.mem_of_getElem? (i := 1057) (by decide +kernel), List.mem_of_getElem? (i := 1058) (by decide +kernel)⟩
theorem lw_p55 : lw_okq (⟨"NextHouseUpModel", "carries", "(II)Z"⟩, 44) := ⟨⟨by decide +kernel, by decide +kernel⟩, List.mem_of_getElem? (i := 767) (by decide +kernel), List.mem_of_getElem? (i := 1067) (by decide +kernel), List.mem_of_getElem? (i := 1068) (by decide +kernel)⟩
theorem lw_p56 : lw_okq (⟨"NextHouseUpModel", "writesOf", "(I)I"⟩, 44) := ⟨⟨by decide +kernel, by decide +kernel⟩, List.mem_of_getElem? (i := 767) (by decide +kernel), List.mem_of_getElem? (i := 1075) (by decide +kernel), List.mem_of_getElem? (i := 1076) (by decide +kernel)⟩
theorem lw_p57 : lw_okq (⟨"NextHouseUpModel", "sends", "(II)V"⟩, 44) := ⟨⟨by decide +kernel, by decide +kernel⟩, List.mem_of_getElem? (i := 767) (by decide +kernel), List.mem_of_getElem? (i := 1083) (by decide +kernel), List.mem_of_getElem? (i := 1084) (by decide +kernel)⟩
theorem lw_p58 : lw_okq (⟨"NextHouseUpModel", "homeSet", "()I"⟩, 44) := ⟨⟨by decide +kernel, by decide +kernel⟩, List.mem_of_getElem? (i := 767) (by decide +kernel), List.mem_of_getElem? (i := 1091) (by decide +kernel), List.mem_of_getElem? (i := 1092) (by decide +kernel)⟩
theorem lw_p59 : lw_okq (⟨"NextHouseUpModel", "passes", "()V"⟩, 44) := ⟨⟨by decide +kernel, by decide +kernel⟩, List.mem_of_getElem? (i := 767) (by decide +kernel), List.mem_of_getElem? (i := 1095) (by decide +kernel), List.mem_of_getElem? (i := 1096) (by decide +kernel)⟩
theorem lw_p60 : lw_okq (⟨"NextHouseUpModel", "steps", "(I)V"⟩, 44) := ⟨⟨by decide +kernel, by decide +kernel⟩, List.mem_of_getElem? (i := 767) (by decide +kernel), List.mem_of_getElem? (i := 1099) (by decide +kernel), List.mem_of_getElem? (i := 1100) (by decide +kernel)⟩
theorem lw_p61 : lw_okq (⟨"NextHouseUpModel", "laysAside", "()V"⟩, 44) := ⟨⟨by decide +kernel, by decide +kernel⟩, List.mem_of_getElem? (i := 767) (by decide +kernel), List.mem_of_getElem? (i := 1108) (by decide +kernel), List.mem_of_getElem? (i := 1109) (by decide +kernel)⟩
theorem lw_p62 : lw_okq (⟨"NextHouseUpModel", "go", "(I)V"⟩, 44) := ⟨⟨by decide +kernel, by decide +kernel⟩, List.mem_of_getElem? (i := 767) (by decide +kernel), List.mem_of_getElem? (i := 1112) (by decide +kernel), List.mem_of_getElem? (i := 1113) (by decide +kernel)⟩
theorem lw_p63 : lw_okq (⟨"NextHouseUpModel", "homeMany", "()I"⟩, 44) := ⟨⟨by decide +kernel, by decide +kernel⟩, List.mem_of_getElem? (i := 767) (by decide +kernel), List.mem_of_getElem? (i := 1116) (by decide +kernel), List.mem_of_getElem? (i := 1117) (by decide +kernel)⟩
def lw_privs_4 : List (MethodName × Nat) := [(⟨"NextHouseUpModel", "added", "()I"⟩, 44), (⟨"NextHouseUpModel", "term", "()I"⟩, 44), (⟨"NextHouseUpModel", "atom", "()I"⟩, 44), (⟨"NextHouseUpModel", "isSign", "(I)Z"⟩, 44), (⟨"NextHouseUpModel", "name", "()I"⟩, 44), (⟨"NextHouseUpModel", "softens", "(II)I"⟩, 44), (⟨"NextHouseUpModel", "says", "(III)I"⟩, 44), (⟨"NextHouseUpModel", "carries", "(II)Z"⟩, 44), (⟨"NextHouseUpModel", "writesOf", "(I)I"⟩, 44), (⟨"NextHouseUpModel", "sends", "(II)V"⟩, 44), (⟨"NextHouseUpModel", "homeSet", "()I"⟩, 44), (⟨"NextHouseUpModel", "passes", "()V"⟩, 44), (⟨"NextHouseUpModel", "steps", "(I)V"⟩, 44), (⟨"NextHouseUpModel", "laysAside", "()V"⟩, 44), (⟨"NextHouseUpModel", "go", "(I)V"⟩, 44), (⟨"NextHouseUpModel", "homeMany", "()I"⟩, 44)]
theorem lw_r4 : ∀ q ∈ lw_privs_4, lw_okq q := List.forall_mem_cons.mpr ⟨lw_p48, List.forall_mem_cons.mpr ⟨lw_p49, List.forall_mem_cons.mpr ⟨lw_p50, List.forall_mem_cons.mpr ⟨lw_p51, List.forall_mem_cons.mpr ⟨lw_p52, List.forall_mem_cons.mpr ⟨lw_p53, List.forall_mem_cons.mpr ⟨lw_p54, List.forall_mem_cons.mpr ⟨lw_p55, List.forall_mem_cons.mpr ⟨lw_p56, List.forall_mem_cons.mpr ⟨lw_p57, List.forall_mem_cons.mpr ⟨lw_p58, List.forall_mem_cons.mpr ⟨lw_p59, List.forall_mem_cons.mpr ⟨lw_p60, List.forall_mem_cons.mpr ⟨lw_p61, List.forall_mem_cons.mpr ⟨lw_p62, List.forall_mem_cons.mpr ⟨lw_p63, fun _ h => absurd h List.not_mem_nil⟩⟩⟩⟩⟩⟩⟩⟩⟩⟩⟩⟩⟩⟩⟩⟩
theorem lw_p64 : lw_okq (⟨"NextHouseUpModel", "laysBack", "()V"⟩, 44) := ⟨⟨by decide +kernel, by decide +kernel⟩, List.mem_of_getElem? (i := 767) (by decide +kernel), List.mem_of_getElem? (i := 1120) (by decide +kernel), List.mem_of_getElem? (i := 1121) (by decide +kernel)⟩
theorem lw_p65 : lw_okq (⟨"NextHouseUpModel", "homeBySlip", "(II)I"⟩, 44) := ⟨⟨by decide +kernel, by decide +kernel⟩, List.mem_of_getElem? (i := 767) (by decide +kernel), List.mem_of_getElem? (i := 1132) (by decide +kernel), List.mem_of_getElem? (i := 1133) (by decide +kernel)⟩
theorem lw_p66 : lw_okq (⟨"NextHouseUpModel", "wayOf", "(I)I"⟩, 44) := ⟨⟨by decide +kernel, by decide +kernel⟩, List.mem_of_getElem? (i := 767) (by decide +kernel), List.mem_of_getElem? (i := 1141) (by decide +kernel), List.mem_of_getElem? (i := 1142) (by decide +kernel)⟩
theorem lw_p67 : lw_okq (⟨"NextHouseUpModel", "homeBehind", "(I)I"⟩, 44) := ⟨⟨by decide +kernel, by decide +kernel⟩, List.mem_of_getElem? (i := 767) (by decide +kernel), List.mem_of_getElem? (i := 1145) (by decide +kernel), List.mem_of_getElem? (i := 1146) (by decide +kernel)⟩
theorem lw_p68 : lw_okq (⟨"NextHouseUpModel", "firstOther", "(II)I"⟩, 44) := ⟨⟨by decide +kernel, by decide +kernel⟩, List.mem_of_getElem? (i := 767) (by decide +kernel), List.mem_of_getElem? (i := 1174) (by decide +kernel), List.mem_of_getElem? (i := 1175) (by decide +kernel)⟩
theorem lw_p69 : lw_okq (⟨"NextHouseUpModel", "likeSet", "(I)I"⟩, 44) := ⟨⟨by decide +kernel, by decide +kernel⟩, List.mem_of_getElem? (i := 767) (by decide +kernel), List.mem_of_getElem? (i := 1178) (by decide +kernel), List.mem_of_getElem? (i := 1179) (by decide +kernel)⟩
theorem lw_p70 : lw_okq (⟨"NextHouseUpModel", "homeDrawn", "(II)I"⟩, 44) := ⟨⟨by decide +kernel, by decide +kernel⟩, List.mem_of_getElem? (i := 767) (by decide +kernel), List.mem_of_getElem? (i := 1196) (by decide +kernel), List.mem_of_getElem? (i := 1197) (by decide +kernel)⟩
def lw_privs_5 : List (MethodName × Nat) := [(⟨"NextHouseUpModel", "laysBack", "()V"⟩, 44), (⟨"NextHouseUpModel", "homeBySlip", "(II)I"⟩, 44), (⟨"NextHouseUpModel", "wayOf", "(I)I"⟩, 44), (⟨"NextHouseUpModel", "homeBehind", "(I)I"⟩, 44), (⟨"NextHouseUpModel", "firstOther", "(II)I"⟩, 44), (⟨"NextHouseUpModel", "likeSet", "(I)I"⟩, 44), (⟨"NextHouseUpModel", "homeDrawn", "(II)I"⟩, 44)]
theorem lw_r5 : ∀ q ∈ lw_privs_5, lw_okq q := List.forall_mem_cons.mpr ⟨lw_p64, List.forall_mem_cons.mpr ⟨lw_p65, List.forall_mem_cons.mpr ⟨lw_p66, List.forall_mem_cons.mpr ⟨lw_p67, List.forall_mem_cons.mpr ⟨lw_p68, List.forall_mem_cons.mpr ⟨lw_p69, List.forall_mem_cons.mpr ⟨lw_p70, fun _ h => absurd h List.not_mem_nil⟩⟩⟩⟩⟩⟩⟩
def lw_privs : List (MethodName × Nat) := lw_privs_1 ++ (lw_privs_2 ++ (lw_privs_3 ++ (lw_privs_4 ++ (lw_privs_5))))
def lw_tbl : List Cond := k2_sels lw_privs ++ tables_1
theorem lw_privs_ok : ∀ q ∈ lw_privs, lw_okq q := by
  show ∀ q ∈ lw_privs_1 ++ (lw_privs_2 ++ (lw_privs_3 ++ (lw_privs_4 ++ (lw_privs_5)))), lw_okq q
  exact List.forall_mem_append.mpr ⟨lw_r1, List.forall_mem_append.mpr ⟨lw_r2, List.forall_mem_append.mpr ⟨lw_r3, List.forall_mem_append.mpr ⟨lw_r4, lw_r5⟩⟩⟩⟩
-- ===== end of PART A; then your names; then what follows =====
end
section
def RX0 : String := "NextHouseUp$Sheet"
def TX0 : u_T := fun k => match k with
  | 0 => ("NextHouseUp$Sheet", "sort", "I", false)
  | 1 => ("NextHouseUp$Sheet", "size", "I", false)
  | _ => ("NextHouseUp$Sheet", "items", "[I", true)
def tyX0 : Nat → FieldType := fun k => match k with
  | 0 => .int
  | 1 => .int
  | _ => .array .int
theorem nmX0 : ∀ a, a < 3 → ∀ b, b < 3 → a ≠ b → (TX0 a).2.1 ≠ (TX0 b).2.1 := by decide +kernel
theorem tyX0_ok : ∀ k, k < 3 → parseFieldDescriptor (TX0 k).2.2.1 = some (tyX0 k) := by decide +kernel
abbrev cX0_init : ByteArray := prog_2_method_1_code
def yX0_init : MethodName := ⟨RX0, "<init>", "()V"⟩
abbrev cX0_become : ByteArray := prog_2_method_2_code
def yX0_become : MethodName := ⟨RX0, "become", "(II)V"⟩
abbrev cX0_isMissing : ByteArray := prog_2_method_3_code
def yX0_isMissing : MethodName := ⟨RX0, "isMissing", "()Z"⟩
abbrev cX0_has : ByteArray := prog_2_method_4_code
def yX0_has : MethodName := ⟨RX0, "has", "(I)Z"⟩
abbrev cX0_hasRun : ByteArray := prog_2_method_5_code
def yX0_hasRun : MethodName := ⟨RX0, "hasRun", "(II)Z"⟩
abbrev cX0_item : ByteArray := prog_2_method_6_code
def yX0_item : MethodName := ⟨RX0, "item", "(I)I"⟩
abbrev cX0_put : ByteArray := prog_2_method_7_code
def yX0_put : MethodName := ⟨RX0, "put", "(II)V"⟩
def RX1 : String := "NextHouseUp$Tape"
def TX1 : u_T := fun k => match k with
  | 0 => ("NextHouseUp$Tape", "size", "I", false)
  | 1 => ("NextHouseUp$Tape", "texts", "LNextHouseUp$Texts;", true)
  | 2 => ("NextHouseUp$Tape", "bytes", "[I", true)
  | 3 => ("NextHouseUp$Tape", "token", "I", false)
  | 4 => ("NextHouseUp$Tape", "start", "I", false)
  | 5 => ("NextHouseUp$Tape", "next", "I", false)
  | 6 => ("NextHouseUp$Tape", "number", "I", false)
  | _ => ("NextHouseUp$Tape", "fault", "I", false)
def tyX1 : Nat → FieldType := fun k => match k with
  | 0 => .int
  | 1 => .object "NextHouseUp$Texts"
  | 2 => .array .int
  | 3 => .int
  | 4 => .int
  | 5 => .int
  | 6 => .int
  | _ => .int
theorem nmX1 : ∀ a, a < 8 → ∀ b, b < 8 → a ≠ b → (TX1 a).2.1 ≠ (TX1 b).2.1 := by decide +kernel
theorem tyX1_ok : ∀ k, k < 8 → parseFieldDescriptor (TX1 k).2.2.1 = some (tyX1 k) := by decide +kernel
abbrev cX1_init : ByteArray := prog_3_method_1_code
def yX1_init : MethodName := ⟨RX1, "<init>", "(LNextHouseUp$Texts;)V"⟩
abbrev cX1_add : ByteArray := prog_3_method_2_code
def yX1_add : MethodName := ⟨RX1, "add", "(I)Z"⟩
abbrev cX1_addAll : ByteArray := prog_3_method_3_code
def yX1_addAll : MethodName := ⟨RX1, "addAll", "(Ljava/lang/String;)V"⟩
abbrev cX1_read : ByteArray := prog_3_method_4_code
def yX1_read : MethodName := ⟨RX1, "read", "()I"⟩
abbrev cX1_readOr : ByteArray := prog_3_method_5_code
def yX1_readOr : MethodName := ⟨RX1, "readOr", "(I)V"⟩
abbrev cX1_readAnd : ByteArray := prog_3_method_6_code
def yX1_readAnd : MethodName := ⟨RX1, "readAnd", "(I)V"⟩
abbrev cX1_readNot : ByteArray := prog_3_method_7_code
def yX1_readNot : MethodName := ⟨RX1, "readNot", "(I)V"⟩
abbrev cX1_readSum : ByteArray := prog_3_method_8_code
def yX1_readSum : MethodName := ⟨RX1, "readSum", "(I)V"⟩
abbrev cX1_readTerm : ByteArray := prog_3_method_9_code
def yX1_readTerm : MethodName := ⟨RX1, "readTerm", "(I)V"⟩
abbrev cX1_readOne : ByteArray := prog_3_method_10_code
def yX1_readOne : MethodName := ⟨RX1, "readOne", "(I)V"⟩
abbrev cX1_opens : ByteArray := prog_3_method_11_code
def yX1_opens : MethodName := ⟨RX1, "opens", "(I)Z"⟩
abbrev cX1_expect : ByteArray := prog_3_method_12_code
def yX1_expect : MethodName := ⟨RX1, "expect", "(I)V"⟩
abbrev cX1_refuse : ByteArray := prog_3_method_13_code
def yX1_refuse : MethodName := ⟨RX1, "refuse", "()V"⟩
abbrev cX1_advance : ByteArray := prog_3_method_14_code
def yX1_advance : MethodName := ⟨RX1, "advance", "()V"⟩
abbrev cX1_readWord : ByteArray := prog_3_method_15_code
def yX1_readWord : MethodName := ⟨RX1, "readWord", "()V"⟩
abbrev cX1_readNumber : ByteArray := prog_3_method_16_code
def yX1_readNumber : MethodName := ⟨RX1, "readNumber", "()V"⟩
abbrev cX1_stands : ByteArray := prog_3_method_17_code
def yX1_stands : MethodName := ⟨RX1, "stands", "(Ljava/lang/String;)Z"⟩
abbrev cX1_byteAt : ByteArray := prog_3_method_18_code
def yX1_byteAt : MethodName := ⟨RX1, "byteAt", "(I)I"⟩
abbrev cX1_word : ByteArray := prog_3_method_19_code
def yX1_word : MethodName := ⟨RX1, "word", "(I)Ljava/lang/String;"⟩
abbrev cX1_isBlank : ByteArray := prog_3_method_20_code
def yX1_isBlank : MethodName := ⟨RX1, "isBlank", "(I)Z"⟩
abbrev cX1_isWordByte : ByteArray := prog_3_method_21_code
def yX1_isWordByte : MethodName := ⟨RX1, "isWordByte", "(I)Z"⟩
abbrev cX1_isDigit : ByteArray := prog_3_method_22_code
def yX1_isDigit : MethodName := ⟨RX1, "isDigit", "(I)Z"⟩
abbrev cX1_isSign : ByteArray := prog_3_method_23_code
def yX1_isSign : MethodName := ⟨RX1, "isSign", "(I)Z"⟩
def RX2 : String := "NextHouseUp$Texts"
def TX2 : u_T := fun k => match k with
  | 0 => ("NextHouseUp$Texts", "size", "I", false)
  | 1 => ("NextHouseUp$Texts", "tone", "I", false)
  | 2 => ("NextHouseUp$Texts", "house", "I", false)
  | 3 => ("NextHouseUp$Texts", "number", "I", false)
  | 4 => ("NextHouseUp$Texts", "day", "I", false)
  | 5 => ("NextHouseUp$Texts", "read", "I", false)
  | 6 => ("NextHouseUp$Texts", "mine", "I", false)
  | 7 => ("NextHouseUp$Texts", "codes", "[I", true)
  | 8 => ("NextHouseUp$Texts", "begins", "[I", true)
  | 9 => ("NextHouseUp$Texts", "end", "I", false)
  | _ => ("NextHouseUp$Texts", "stack", "[I", true)
def tyX2 : Nat → FieldType := fun k => match k with
  | 0 => .int
  | 1 => .int
  | 2 => .int
  | 3 => .int
  | 4 => .int
  | 5 => .int
  | 6 => .int
  | 7 => .array .int
  | 8 => .array .int
  | 9 => .int
  | _ => .array .int
theorem nmX2 : ∀ a, a < 11 → ∀ b, b < 11 → a ≠ b → (TX2 a).2.1 ≠ (TX2 b).2.1 := by decide +kernel
theorem tyX2_ok : ∀ k, k < 11 → parseFieldDescriptor (TX2 k).2.2.1 = some (tyX2 k) := by decide +kernel
abbrev cX2_init : ByteArray := prog_4_method_1_code
def yX2_init : MethodName := ⟨RX2, "<init>", "()V"⟩
abbrev cX2_hasRoom : ByteArray := prog_4_method_2_code
def yX2_hasRoom : MethodName := ⟨RX2, "hasRoom", "()Z"⟩
abbrev cX2_isText : ByteArray := prog_4_method_3_code
def yX2_isText : MethodName := ⟨RX2, "isText", "(I)Z"⟩
abbrev cX2_begin : ByteArray := prog_4_method_4_code
def yX2_begin : MethodName := ⟨RX2, "begin", "()V"⟩
abbrev cX2_add : ByteArray := prog_4_method_5_code
def yX2_add : MethodName := ⟨RX2, "add", "(I)V"⟩
abbrev cX2_endPart : ByteArray := prog_4_method_6_code
def yX2_endPart : MethodName := ⟨RX2, "endPart", "(I)V"⟩
abbrev cX2_keep : ByteArray := prog_4_method_7_code
def yX2_keep : MethodName := ⟨RX2, "keep", "()V"⟩
abbrev cX2_value : ByteArray := prog_4_method_8_code
def yX2_value : MethodName := ⟨RX2, "value", "(II)I"⟩
abbrev cX2_named : ByteArray := prog_4_method_9_code
def yX2_named : MethodName := ⟨RX2, "named", "(I)I"⟩
abbrev cX2_joined : ByteArray := prog_4_method_10_code
def yX2_joined : MethodName := ⟨RX2, "joined", "(III)I"⟩
def RX3 : String := "NextHouseUp$Village"
def TX3 : u_T := fun k => match k with
  | 0 => ("NextHouseUp$Village", "texts", "LNextHouseUp$Texts;", true)
  | 1 => ("NextHouseUp$Village", "day", "I", false)
  | 2 => ("NextHouseUp$Village", "slip", "I", false)
  | 3 => ("NextHouseUp$Village", "rule", "I", false)
  | 4 => ("NextHouseUp$Village", "people", "I", false)
  | 5 => ("NextHouseUp$Village", "letters", "I", false)
  | 6 => ("NextHouseUp$Village", "keeping", "I", false)
  | 7 => ("NextHouseUp$Village", "kind", "[I", true)
  | 8 => ("NextHouseUp$Village", "number", "[I", true)
  | 9 => ("NextHouseUp$Village", "house", "[I", true)
  | 10 => ("NextHouseUp$Village", "from", "[I", true)
  | 11 => ("NextHouseUp$Village", "to", "[I", true)
  | 12 => ("NextHouseUp$Village", "at", "[I", true)
  | 13 => ("NextHouseUp$Village", "tone", "[I", true)
  | _ => ("NextHouseUp$Village", "read", "[I", true)
def tyX3 : Nat → FieldType := fun k => match k with
  | 0 => .object "NextHouseUp$Texts"
  | 1 => .int
  | 2 => .int
  | 3 => .int
  | 4 => .int
  | 5 => .int
  | 6 => .int
  | 7 => .array .int
  | 8 => .array .int
  | 9 => .array .int
  | 10 => .array .int
  | 11 => .array .int
  | 12 => .array .int
  | 13 => .array .int
  | _ => .array .int
theorem nmX3 : ∀ a, a < 15 → ∀ b, b < 15 → a ≠ b → (TX3 a).2.1 ≠ (TX3 b).2.1 := by decide +kernel
theorem tyX3_ok : ∀ k, k < 15 → parseFieldDescriptor (TX3 k).2.2.1 = some (tyX3 k) := by decide +kernel
abbrev cX3_init : ByteArray := prog_5_method_1_code
def yX3_init : MethodName := ⟨RX3, "<init>", "(LNextHouseUp$Texts;)V"⟩
abbrev cX3_takeOver : ByteArray := prog_5_method_2_code
def yX3_takeOver : MethodName := ⟨RX3, "takeOver", "(LNextHouseUp$Village;)V"⟩
abbrev cX3_isOne : ByteArray := prog_5_method_3_code
def yX3_isOne : MethodName := ⟨RX3, "isOne", "(I)Z"⟩
abbrev cX3_areTwo : ByteArray := prog_5_method_4_code
def yX3_areTwo : MethodName := ⟨RX3, "areTwo", "(II)Z"⟩
abbrev cX3_isLetter : ByteArray := prog_5_method_5_code
def yX3_isLetter : MethodName := ⟨RX3, "isLetter", "(I)Z"⟩
abbrev cX3_hasRoom : ByteArray := prog_5_method_6_code
def yX3_hasRoom : MethodName := ⟨RX3, "hasRoom", "()Z"⟩
abbrev cX3_kindOf : ByteArray := prog_5_method_7_code
def yX3_kindOf : MethodName := ⟨RX3, "kindOf", "(I)I"⟩
abbrev cX3_numberOf : ByteArray := prog_5_method_8_code
def yX3_numberOf : MethodName := ⟨RX3, "numberOf", "(I)I"⟩
abbrev cX3_houseOf : ByteArray := prog_5_method_9_code
def yX3_houseOf : MethodName := ⟨RX3, "houseOf", "(I)I"⟩
abbrev cX3_fromWhom : ByteArray := prog_5_method_10_code
def yX3_fromWhom : MethodName := ⟨RX3, "fromWhom", "(I)I"⟩
abbrev cX3_toWhom : ByteArray := prog_5_method_11_code
def yX3_toWhom : MethodName := ⟨RX3, "toWhom", "(I)I"⟩
abbrev cX3_whereIs : ByteArray := prog_5_method_12_code
def yX3_whereIs : MethodName := ⟨RX3, "whereIs", "(I)I"⟩
abbrev cX3_toneOf : ByteArray := prog_5_method_13_code
def yX3_toneOf : MethodName := ⟨RX3, "toneOf", "(I)I"⟩
abbrev cX3_readBy : ByteArray := prog_5_method_14_code
def yX3_readBy : MethodName := ⟨RX3, "readBy", "(I)I"⟩
abbrev cX3_changeKind : ByteArray := prog_5_method_15_code
def yX3_changeKind : MethodName := ⟨RX3, "changeKind", "(II)V"⟩
abbrev cX3_changeNumber : ByteArray := prog_5_method_16_code
def yX3_changeNumber : MethodName := ⟨RX3, "changeNumber", "(II)V"⟩
abbrev cX3_changeTone : ByteArray := prog_5_method_17_code
def yX3_changeTone : MethodName := ⟨RX3, "changeTone", "(II)V"⟩
abbrev cX3_moveTo : ByteArray := prog_5_method_18_code
def yX3_moveTo : MethodName := ⟨RX3, "moveTo", "(II)V"⟩
abbrev cX3_livesIn : ByteArray := prog_5_method_19_code
def yX3_livesIn : MethodName := ⟨RX3, "livesIn", "(I)I"⟩
abbrev cX3_known : ByteArray := prog_5_method_20_code
def yX3_known : MethodName := ⟨RX3, "known", "(I)I"⟩
abbrev cX3_homes : ByteArray := prog_5_method_21_code
def yX3_homes : MethodName := ⟨RX3, "homes", "()I"⟩
abbrev cX3_comesToLive : ByteArray := prog_5_method_22_code
def yX3_comesToLive : MethodName := ⟨RX3, "comesToLive", "(III)I"⟩
abbrev cX3_post : ByteArray := prog_5_method_23_code
def yX3_post : MethodName := ⟨RX3, "post", "(II)I"⟩
abbrev cX3_slipAll : ByteArray := prog_5_method_24_code
def yX3_slipAll : MethodName := ⟨RX3, "slipAll", "(I)V"⟩
abbrev cX3_passDay : ByteArray := prog_5_method_25_code
def yX3_passDay : MethodName := ⟨RX3, "passDay", "()I"⟩
abbrev cX3_passDays : ByteArray := prog_5_method_26_code
def yX3_passDays : MethodName := ⟨RX3, "passDays", "(I)V"⟩
abbrev cX3_passDayOf : ByteArray := prog_5_method_27_code
def yX3_passDayOf : MethodName := ⟨RX3, "passDayOf", "(I)V"⟩
abbrev cX3_readBehind : ByteArray := prog_5_method_28_code
def yX3_readBehind : MethodName := ⟨RX3, "readBehind", "(II)I"⟩
abbrev cX3_firstOtherwise : ByteArray := prog_5_method_29_code
def yX3_firstOtherwise : MethodName := ⟨RX3, "firstOtherwise", "(LNextHouseUp$Sheet;I)I"⟩
abbrev cX3_goesDown : ByteArray := prog_5_method_30_code
def yX3_goesDown : MethodName := ⟨RX3, "goesDown", "(I)Z"⟩
abbrev cX3_carries : ByteArray := prog_5_method_31_code
def yX3_carries : MethodName := ⟨RX3, "carries", "(II)Z"⟩
abbrev cX3_softens : ByteArray := prog_5_method_32_code
def yX3_softens : MethodName := ⟨RX3, "softens", "(II)I"⟩
abbrev cX3_toneWritten : ByteArray := prog_5_method_33_code
def yX3_toneWritten : MethodName := ⟨RX3, "toneWritten", "(I)I"⟩
abbrev cX3_ruled : ByteArray := prog_5_method_34_code
def yX3_ruled : MethodName := ⟨RX3, "ruled", "(III)I"⟩
abbrev cX3_bounded : ByteArray := prog_5_method_35_code
def yX3_bounded : MethodName := ⟨RX3, "bounded", "(II)I"⟩
abbrev cX3_isUnder : ByteArray := prog_5_method_36_code
def yX3_isUnder : MethodName := ⟨RX3, "isUnder", "(II)Z"⟩
def RX4 : String := "NextHouseUp"
def TX4 : u_T := fun k => match k with
  | 0 => ("NextHouseUp", "texts", "LNextHouseUp$Texts;", true)
  | 1 => ("NextHouseUp", "tape", "LNextHouseUp$Tape;", true)
  | 2 => ("NextHouseUp", "now", "LNextHouseUp$Village;", true)
  | 3 => ("NextHouseUp", "thought", "LNextHouseUp$Village;", true)
  | 4 => ("NextHouseUp", "kept", "LNextHouseUp$Village;", true)
  | 5 => ("NextHouseUp", "isKept", "Z", false)
  | 6 => ("NextHouseUp", "sheets", "[LNextHouseUp$Sheet;", true)
  | _ => ("NextHouseUp", "way", "[I", true)
def tyX4 : Nat → FieldType := fun k => match k with
  | 0 => .object "NextHouseUp$Texts"
  | 1 => .object "NextHouseUp$Tape"
  | 2 => .object "NextHouseUp$Village"
  | 3 => .object "NextHouseUp$Village"
  | 4 => .object "NextHouseUp$Village"
  | 5 => .boolean
  | 6 => .array (.object "NextHouseUp$Sheet")
  | _ => .array .int
theorem nmX4 : ∀ a, a < 8 → ∀ b, b < 8 → a ≠ b → (TX4 a).2.1 ≠ (TX4 b).2.1 := by decide +kernel
theorem tyX4_ok : ∀ k, k < 8 → parseFieldDescriptor (TX4 k).2.2.1 = some (tyX4 k) := by decide +kernel
abbrev cX4_init : ByteArray := prog_1_method_1_code
def yX4_init : MethodName := ⟨RX4, "<init>", "()V"⟩
abbrev cX4_set : ByteArray := prog_1_method_2_code
def yX4_set : MethodName := ⟨RX4, "set", "(III)I"⟩
abbrev cX4_person : ByteArray := prog_1_method_3_code
def yX4_person : MethodName := ⟨RX4, "person", "(III)I"⟩
abbrev cX4_swap : ByteArray := prog_1_method_4_code
def yX4_swap : MethodName := ⟨RX4, "swap", "(II)I"⟩
abbrev cX4_told : ByteArray := prog_1_method_5_code
def yX4_told : MethodName := ⟨RX4, "told", "(II)I"⟩
abbrev cX4_asks : ByteArray := prog_1_method_6_code
def yX4_asks : MethodName := ⟨RX4, "asks", "(III)I"⟩
abbrev cX4_writes : ByteArray := prog_1_method_7_code
def yX4_writes : MethodName := ⟨RX4, "writes", "(I)I"⟩
abbrev cX4_greatest : ByteArray := prog_1_method_8_code
def yX4_greatest : MethodName := ⟨RX4, "greatest", "(I)I"⟩
abbrev cX4_toldOfOne : ByteArray := prog_1_method_9_code
def yX4_toldOfOne : MethodName := ⟨RX4, "toldOfOne", "(II)I"⟩
abbrev cX4_toldOfLetter : ByteArray := prog_1_method_10_code
def yX4_toldOfLetter : MethodName := ⟨RX4, "toldOfLetter", "(II)I"⟩
abbrev cX4_feed : ByteArray := prog_1_method_11_code
def yX4_feed : MethodName := ⟨RX4, "feed", "(I)I"⟩
abbrev cX4_text : ByteArray := prog_1_method_12_code
def yX4_text : MethodName := ⟨RX4, "text", "()I"⟩
abbrev cX4_force : ByteArray := prog_1_method_13_code
def yX4_force : MethodName := ⟨RX4, "force", "(I)I"⟩
abbrev cX4_send : ByteArray := prog_1_method_14_code
def yX4_send : MethodName := ⟨RX4, "send", "(II)I"⟩
abbrev cX4_day : ByteArray := prog_1_method_15_code
def yX4_day : MethodName := ⟨RX4, "day", "()I"⟩
abbrev cX4_run : ByteArray := prog_1_method_16_code
def yX4_run : MethodName := ⟨RX4, "run", "(III)I"⟩
abbrev cX4_comes : ByteArray := prog_1_method_17_code
def yX4_comes : MethodName := ⟨RX4, "comes", "(I)I"⟩
abbrev cX4_mistake : ByteArray := prog_1_method_18_code
def yX4_mistake : MethodName := ⟨RX4, "mistake", "(II)I"⟩
abbrev cX4_live : ByteArray := prog_1_method_19_code
def yX4_live : MethodName := ⟨RX4, "live", "(II)I"⟩
abbrev cX4_hide : ByteArray := prog_1_method_20_code
def yX4_hide : MethodName := ⟨RX4, "hide", "(IIII)I"⟩
abbrev cX4_tell : ByteArray := prog_1_method_21_code
def yX4_tell : MethodName := ⟨RX4, "tell", "(III)I"⟩
abbrev cX4_mean : ByteArray := prog_1_method_22_code
def yX4_mean : MethodName := ⟨RX4, "mean", "(I)J"⟩
abbrev cX4_firstWay : ByteArray := prog_1_method_23_code
def yX4_firstWay : MethodName := ⟨RX4, "firstWay", "()V"⟩
abbrev cX4_nextWay : ByteArray := prog_1_method_24_code
def yX4_nextWay : MethodName := ⟨RX4, "nextWay", "()Z"⟩
abbrev cX4_exchange : ByteArray := prog_1_method_25_code
def yX4_exchange : MethodName := ⟨RX4, "exchange", "(II)V"⟩
abbrev cX4_moveByWay : ByteArray := prog_1_method_26_code
def yX4_moveByWay : MethodName := ⟨RX4, "moveByWay", "()V"⟩
abbrev cX4_digitsOfWay : ByteArray := prog_1_method_27_code
def yX4_digitsOfWay : MethodName := ⟨RX4, "digitsOfWay", "()I"⟩
abbrev cX4_inLowestTerms : ByteArray := prog_1_method_28_code
def yX4_inLowestTerms : MethodName := ⟨RX4, "inLowestTerms", "(III)J"⟩
abbrev cX4_tells : ByteArray := prog_1_method_29_code
def yX4_tells : MethodName := ⟨RX4, "tells", "(IIII)I"⟩
abbrev cX4_film : ByteArray := prog_1_method_30_code
def yX4_film : MethodName := ⟨RX4, "film", "(III)I"⟩
abbrev cX4_drawn : ByteArray := prog_1_method_31_code
def yX4_drawn : MethodName := ⟨RX4, "drawn", "(II)I"⟩
abbrev cX4_chance : ByteArray := prog_1_method_32_code
def yX4_chance : MethodName := ⟨RX4, "chance", "(IIII)J"⟩
abbrev cX4_image : ByteArray := prog_1_method_33_code
def yX4_image : MethodName := ⟨RX4, "image", "()I"⟩
abbrev cX4_back : ByteArray := prog_1_method_34_code
def yX4_back : MethodName := ⟨RX4, "back", "()I"⟩
abbrev cX4_count : ByteArray := prog_1_method_35_code
def yX4_count : MethodName := ⟨RX4, "count", "(I)I"⟩
abbrev cX4_allSo : ByteArray := prog_1_method_36_code
def yX4_allSo : MethodName := ⟨RX4, "allSo", "(LNextHouseUp$Sheet;IIII)I"⟩
abbrev cX4_daysSo : ByteArray := prog_1_method_37_code
def yX4_daysSo : MethodName := ⟨RX4, "daysSo", "(LNextHouseUp$Sheet;IZ)I"⟩
abbrev cX4_lettersSo : ByteArray := prog_1_method_38_code
def yX4_lettersSo : MethodName := ⟨RX4, "lettersSo", "(LNextHouseUp$Sheet;)I"⟩
abbrev cX4_homesDrawn : ByteArray := prog_1_method_39_code
def yX4_homesDrawn : MethodName := ⟨RX4, "homesDrawn", "(II)I"⟩
abbrev cX4_sheet : ByteArray := prog_1_method_40_code
def yX4_sheet : MethodName := ⟨RX4, "sheet", "(III)I"⟩
abbrev cX4_cell : ByteArray := prog_1_method_41_code
def yX4_cell : MethodName := ⟨RX4, "cell", "(III)I"⟩
abbrev cX4_copy : ByteArray := prog_1_method_42_code
def yX4_copy : MethodName := ⟨RX4, "copy", "(IIIII)I"⟩
abbrev cX4_hill : ByteArray := prog_1_method_43_code
def yX4_hill : MethodName := ⟨RX4, "hill", "(IIII)I"⟩
abbrev cX4_taken : ByteArray := prog_1_method_44_code
def yX4_taken : MethodName := ⟨RX4, "taken", "(II)I"⟩
abbrev cX4_sheetNumbered : ByteArray := prog_1_method_45_code
def yX4_sheetNumbered : MethodName := ⟨RX4, "sheetNumbered", "(I)LNextHouseUp$Sheet;"⟩
def RX5 : String := "NextHouseUpModel"
def TX5 : u_T := fun k => match k with
  | 0 => ("NextHouseUpModel", "thrown", "I", false)
  | 1 => ("NextHouseUpModel", "texts", "[I", true)
  | 2 => ("NextHouseUpModel", "textSize", "[I", true)
  | 3 => ("NextHouseUpModel", "textCount", "I", false)
  | 4 => ("NextHouseUpModel", "rule", "I", false)
  | 5 => ("NextHouseUpModel", "tape", "[I", true)
  | 6 => ("NextHouseUpModel", "taped", "I", false)
  | 7 => ("NextHouseUpModel", "dayNow", "I", false)
  | 8 => ("NextHouseUpModel", "slip", "I", false)
  | 9 => ("NextHouseUpModel", "rows", "[I", true)
  | 10 => ("NextHouseUpModel", "many", "I", false)
  | 11 => ("NextHouseUpModel", "post", "[I", true)
  | 12 => ("NextHouseUpModel", "postMany", "I", false)
  | 13 => ("NextHouseUpModel", "keepers", "I", false)
  | 14 => ("NextHouseUpModel", "ofTone", "I", false)
  | 15 => ("NextHouseUpModel", "ofHouse", "I", false)
  | 16 => ("NextHouseUpModel", "ofNumber", "I", false)
  | 17 => ("NextHouseUpModel", "ofDay", "I", false)
  | 18 => ("NextHouseUpModel", "ofRead", "I", false)
  | 19 => ("NextHouseUpModel", "ofMine", "I", false)
  | 20 => ("NextHouseUpModel", "from", "I", false)
  | 21 => ("NextHouseUpModel", "size", "I", false)
  | 22 => ("NextHouseUpModel", "here", "I", false)
  | 23 => ("NextHouseUpModel", "token", "I", false)
  | 24 => ("NextHouseUpModel", "tokenAt", "I", false)
  | 25 => ("NextHouseUpModel", "tokenWorth", "J", false)
  | 26 => ("NextHouseUpModel", "open", "I", false)
  | 27 => ("NextHouseUpModel", "bad", "Z", false)
  | 28 => ("NextHouseUpModel", "fault", "I", false)
  | 29 => ("NextHouseUpModel", "was", "[I", true)
  | 30 => ("NextHouseUpModel", "homes", "[I", true)
  | 31 => ("NextHouseUpModel", "lives", "[I", true)
  | 32 => ("NextHouseUpModel", "rowsWas", "[I", true)
  | 33 => ("NextHouseUpModel", "rowsKept", "[I", true)
  | 34 => ("NextHouseUpModel", "postKept", "[I", true)
  | 35 => ("NextHouseUpModel", "manyKept", "I", false)
  | 36 => ("NextHouseUpModel", "postManyKept", "I", false)
  | 37 => ("NextHouseUpModel", "dayKept", "I", false)
  | 38 => ("NextHouseUpModel", "slipKept", "I", false)
  | 39 => ("NextHouseUpModel", "ruleKept", "I", false)
  | 40 => ("NextHouseUpModel", "isThere", "[Z", true)
  | 41 => ("NextHouseUpModel", "sorts", "[I", true)
  | 42 => ("NextHouseUpModel", "sheetSize", "[I", true)
  | _ => ("NextHouseUpModel", "items", "[I", true)
def tyX5 : Nat → FieldType := fun k => match k with
  | 0 => .int
  | 1 => .array .int
  | 2 => .array .int
  | 3 => .int
  | 4 => .int
  | 5 => .array .int
  | 6 => .int
  | 7 => .int
  | 8 => .int
  | 9 => .array .int
  | 10 => .int
  | 11 => .array .int
  | 12 => .int
  | 13 => .int
  | 14 => .int
  | 15 => .int
  | 16 => .int
  | 17 => .int
  | 18 => .int
  | 19 => .int
  | 20 => .int
  | 21 => .int
  | 22 => .int
  | 23 => .int
  | 24 => .int
  | 25 => .long
  | 26 => .int
  | 27 => .boolean
  | 28 => .int
  | 29 => .array .int
  | 30 => .array .int
  | 31 => .array .int
  | 32 => .array .int
  | 33 => .array .int
  | 34 => .array .int
  | 35 => .int
  | 36 => .int
  | 37 => .int
  | 38 => .int
  | 39 => .int
  | 40 => .array .boolean
  | 41 => .array .int
  | 42 => .array .int
  | _ => .array .int
theorem nmX5 : ∀ a, a < 44 → ∀ b, b < 44 → a ≠ b → (TX5 a).2.1 ≠ (TX5 b).2.1 := by decide +kernel
theorem tyX5_ok : ∀ k, k < 44 → parseFieldDescriptor (TX5 k).2.2.1 = some (tyX5 k) := by decide +kernel
abbrev cX5_in : ByteArray := prog_7_method_2_code
def yX5_in : MethodName := ⟨RX5, "in", "(JJJ)Z"⟩
abbrev cX5_within : ByteArray := prog_7_method_3_code
def yX5_within : MethodName := ⟨RX5, "within", "(III)I"⟩
abbrev cX5_init : ByteArray := prog_7_method_4_code
def yX5_init : MethodName := ⟨RX5, "<init>", "()V"⟩
abbrev cX5_spell : ByteArray := prog_7_method_5_code
def yX5_spell : MethodName := ⟨RX5, "spell", "(IIIIIIIII)V"⟩
abbrev cX5_isOne : ByteArray := prog_7_method_6_code
def yX5_isOne : MethodName := ⟨RX5, "isOne", "(I)Z"⟩
abbrev cX5_isLetter : ByteArray := prog_7_method_7_code
def yX5_isLetter : MethodName := ⟨RX5, "isLetter", "(I)Z"⟩
abbrev cX5_areTwo : ByteArray := prog_7_method_8_code
def yX5_areTwo : MethodName := ⟨RX5, "areTwo", "(II)Z"⟩
abbrev cX5_isOf : ByteArray := prog_7_method_9_code
def yX5_isOf : MethodName := ⟨RX5, "isOf", "(II)Z"⟩
abbrev cX5_mostOf : ByteArray := prog_7_method_10_code
def yX5_mostOf : MethodName := ⟨RX5, "mostOf", "(I)I"⟩
abbrev cX5_set : ByteArray := prog_7_method_11_code
def yX5_set : MethodName := ⟨RX5, "set", "(III)I"⟩
abbrev cX5_lays : ByteArray := prog_7_method_12_code
def yX5_lays : MethodName := ⟨RX5, "lays", "(III)V"⟩
abbrev cX5_whoIn : ByteArray := prog_7_method_13_code
def yX5_whoIn : MethodName := ⟨RX5, "whoIn", "(I)I"⟩
abbrev cX5_person : ByteArray := prog_7_method_14_code
def yX5_person : MethodName := ⟨RX5, "person", "(III)I"⟩
abbrev cX5_swap : ByteArray := prog_7_method_15_code
def yX5_swap : MethodName := ⟨RX5, "swap", "(II)I"⟩
abbrev cX5_told : ByteArray := prog_7_method_16_code
def yX5_told : MethodName := ⟨RX5, "told", "(II)I"⟩
abbrev cX5_known : ByteArray := prog_7_method_17_code
def yX5_known : MethodName := ⟨RX5, "known", "(I)I"⟩
abbrev cX5_bitsOf : ByteArray := prog_7_method_18_code
def yX5_bitsOf : MethodName := ⟨RX5, "bitsOf", "(I)I"⟩
abbrev cX5_feed : ByteArray := prog_7_method_19_code
def yX5_feed : MethodName := ⟨RX5, "feed", "(I)I"⟩
abbrev cX5_byteAt : ByteArray := prog_7_method_20_code
def yX5_byteAt : MethodName := ⟨RX5, "byteAt", "(I)I"⟩
abbrev cX5_next : ByteArray := prog_7_method_21_code
def yX5_next : MethodName := ⟨RX5, "next", "()V"⟩
abbrev cX5_fail : ByteArray := prog_7_method_22_code
def yX5_fail : MethodName := ⟨RX5, "fail", "()V"⟩
abbrev cX5_isLetter_ : ByteArray := prog_7_method_23_code
def yX5_isLetter_ : MethodName := ⟨RX5, "isLetter", "(II)Z"⟩
abbrev cX5_isWord : ByteArray := prog_7_method_24_code
def yX5_isWord : MethodName := ⟨RX5, "isWord", "(IIIIIIII)Z"⟩
abbrev cX5_isSign : ByteArray := prog_7_method_25_code
def yX5_isSign : MethodName := ⟨RX5, "isSign", "(I)Z"⟩
abbrev cX5_opens : ByteArray := prog_7_method_26_code
def yX5_opens : MethodName := ⟨RX5, "opens", "()Z"⟩
abbrev cX5_name : ByteArray := prog_7_method_27_code
def yX5_name : MethodName := ⟨RX5, "name", "()I"⟩
abbrev cX5_atom : ByteArray := prog_7_method_28_code
def yX5_atom : MethodName := ⟨RX5, "atom", "()I"⟩
abbrev cX5_term : ByteArray := prog_7_method_29_code
def yX5_term : MethodName := ⟨RX5, "term", "()I"⟩
abbrev cX5_added : ByteArray := prog_7_method_30_code
def yX5_added : MethodName := ⟨RX5, "added", "()I"⟩
abbrev cX5_not : ByteArray := prog_7_method_31_code
def yX5_not : MethodName := ⟨RX5, "not", "()I"⟩
abbrev cX5_both : ByteArray := prog_7_method_32_code
def yX5_both : MethodName := ⟨RX5, "both", "()I"⟩
abbrev cX5_either : ByteArray := prog_7_method_33_code
def yX5_either : MethodName := ⟨RX5, "either", "()I"⟩
abbrev cX5_part : ByteArray := prog_7_method_34_code
def yX5_part : MethodName := ⟨RX5, "part", "(Z)I"⟩
abbrev cX5_read : ByteArray := prog_7_method_35_code
def yX5_read : MethodName := ⟨RX5, "read", "(II)I"⟩
abbrev cX5_text : ByteArray := prog_7_method_36_code
def yX5_text : MethodName := ⟨RX5, "text", "()I"⟩
abbrev cX5_force : ByteArray := prog_7_method_37_code
def yX5_force : MethodName := ⟨RX5, "force", "(I)I"⟩
abbrev cX5_says : ByteArray := prog_7_method_38_code
def yX5_says : MethodName := ⟨RX5, "says", "(III)I"⟩
abbrev cX5_carries : ByteArray := prog_7_method_39_code
def yX5_carries : MethodName := ⟨RX5, "carries", "(II)Z"⟩
abbrev cX5_softens : ByteArray := prog_7_method_40_code
def yX5_softens : MethodName := ⟨RX5, "softens", "(II)I"⟩
abbrev cX5_writesOf : ByteArray := prog_7_method_41_code
def yX5_writesOf : MethodName := ⟨RX5, "writesOf", "(I)I"⟩
abbrev cX5_asks : ByteArray := prog_7_method_42_code
def yX5_asks : MethodName := ⟨RX5, "asks", "(III)I"⟩
abbrev cX5_writes : ByteArray := prog_7_method_43_code
def yX5_writes : MethodName := ⟨RX5, "writes", "(I)I"⟩
abbrev cX5_sends : ByteArray := prog_7_method_44_code
def yX5_sends : MethodName := ⟨RX5, "sends", "(II)V"⟩
abbrev cX5_send : ByteArray := prog_7_method_45_code
def yX5_send : MethodName := ⟨RX5, "send", "(II)I"⟩
abbrev cX5_steps : ByteArray := prog_7_method_46_code
def yX5_steps : MethodName := ⟨RX5, "steps", "(I)V"⟩
abbrev cX5_homeSet : ByteArray := prog_7_method_47_code
def yX5_homeSet : MethodName := ⟨RX5, "homeSet", "()I"⟩
abbrev cX5_homeMany : ByteArray := prog_7_method_48_code
def yX5_homeMany : MethodName := ⟨RX5, "homeMany", "()I"⟩
abbrev cX5_passes : ByteArray := prog_7_method_49_code
def yX5_passes : MethodName := ⟨RX5, "passes", "()V"⟩
abbrev cX5_day : ByteArray := prog_7_method_50_code
def yX5_day : MethodName := ⟨RX5, "day", "()I"⟩
abbrev cX5_laysAside : ByteArray := prog_7_method_51_code
def yX5_laysAside : MethodName := ⟨RX5, "laysAside", "()V"⟩
abbrev cX5_laysBack : ByteArray := prog_7_method_52_code
def yX5_laysBack : MethodName := ⟨RX5, "laysBack", "()V"⟩
abbrev cX5_go : ByteArray := prog_7_method_53_code
def yX5_go : MethodName := ⟨RX5, "go", "(I)V"⟩
abbrev cX5_homeBehind : ByteArray := prog_7_method_54_code
def yX5_homeBehind : MethodName := ⟨RX5, "homeBehind", "(I)I"⟩
abbrev cX5_run : ByteArray := prog_7_method_55_code
def yX5_run : MethodName := ⟨RX5, "run", "(III)I"⟩
abbrev cX5_comes : ByteArray := prog_7_method_56_code
def yX5_comes : MethodName := ⟨RX5, "comes", "(I)I"⟩
abbrev cX5_homeBySlip : ByteArray := prog_7_method_57_code
def yX5_homeBySlip : MethodName := ⟨RX5, "homeBySlip", "(II)I"⟩
abbrev cX5_mistake : ByteArray := prog_7_method_58_code
def yX5_mistake : MethodName := ⟨RX5, "mistake", "(II)I"⟩
abbrev cX5_wayOf : ByteArray := prog_7_method_59_code
def yX5_wayOf : MethodName := ⟨RX5, "wayOf", "(I)I"⟩
abbrev cX5_live : ByteArray := prog_7_method_60_code
def yX5_live : MethodName := ⟨RX5, "live", "(II)I"⟩
abbrev cX5_hide : ByteArray := prog_7_method_61_code
def yX5_hide : MethodName := ⟨RX5, "hide", "(IIII)I"⟩
abbrev cX5_tell : ByteArray := prog_7_method_62_code
def yX5_tell : MethodName := ⟨RX5, "tell", "(III)I"⟩
abbrev cX5_lowest : ByteArray := prog_7_method_63_code
def yX5_lowest : MethodName := ⟨RX5, "lowest", "(JJI)J"⟩
abbrev cX5_mean : ByteArray := prog_7_method_64_code
def yX5_mean : MethodName := ⟨RX5, "mean", "(I)J"⟩
abbrev cX5_firstOther : ByteArray := prog_7_method_65_code
def yX5_firstOther : MethodName := ⟨RX5, "firstOther", "(II)I"⟩
abbrev cX5_likeSet : ByteArray := prog_7_method_66_code
def yX5_likeSet : MethodName := ⟨RX5, "likeSet", "(I)I"⟩
abbrev cX5_tells : ByteArray := prog_7_method_67_code
def yX5_tells : MethodName := ⟨RX5, "tells", "(IIII)I"⟩
abbrev cX5_film : ByteArray := prog_7_method_68_code
def yX5_film : MethodName := ⟨RX5, "film", "(III)I"⟩
abbrev cX5_homeDrawn : ByteArray := prog_7_method_69_code
def yX5_homeDrawn : MethodName := ⟨RX5, "homeDrawn", "(II)I"⟩
abbrev cX5_drawn : ByteArray := prog_7_method_70_code
def yX5_drawn : MethodName := ⟨RX5, "drawn", "(II)I"⟩
abbrev cX5_chance : ByteArray := prog_7_method_71_code
def yX5_chance : MethodName := ⟨RX5, "chance", "(IIII)J"⟩
abbrev cX5_image : ByteArray := prog_7_method_72_code
def yX5_image : MethodName := ⟨RX5, "image", "()I"⟩
abbrev cX5_back : ByteArray := prog_7_method_73_code
def yX5_back : MethodName := ⟨RX5, "back", "()I"⟩
abbrev cX5_count : ByteArray := prog_7_method_74_code
def yX5_count : MethodName := ⟨RX5, "count", "(I)I"⟩
abbrev cX5_isSheet : ByteArray := prog_7_method_75_code
def yX5_isSheet : MethodName := ⟨RX5, "isSheet", "(I)Z"⟩
abbrev cX5_sheet : ByteArray := prog_7_method_76_code
def yX5_sheet : MethodName := ⟨RX5, "sheet", "(III)I"⟩
abbrev cX5_cell : ByteArray := prog_7_method_77_code
def yX5_cell : MethodName := ⟨RX5, "cell", "(III)I"⟩
abbrev cX5_copy : ByteArray := prog_7_method_78_code
def yX5_copy : MethodName := ⟨RX5, "copy", "(IIIII)I"⟩
abbrev cX5_hill : ByteArray := prog_7_method_79_code
def yX5_hill : MethodName := ⟨RX5, "hill", "(IIII)I"⟩
abbrev cX5_over : ByteArray := prog_7_method_80_code
def yX5_over : MethodName := ⟨RX5, "over", "(I)I"⟩
abbrev cX5_taken : ByteArray := prog_7_method_81_code
def yX5_taken : MethodName := ⟨RX5, "taken", "(II)I"⟩
def RJ6 : String := "java/lang/Integer"
def TJ6 : u_T := fun k => match k with
  | _ => ("", "", "", false)
def tyJ6 : Nat → FieldType := fun k => match k with
  | _ => .int
theorem nmJ6 : ∀ a, a < 0 → ∀ b, b < 0 → a ≠ b → (TJ6 a).2.1 ≠ (TJ6 b).2.1 := by decide +kernel
theorem tyJ6_ok : ∀ k, k < 0 → parseFieldDescriptor (TJ6 k).2.2.1 = some (tyJ6 k) := by decide +kernel
abbrev cJ6_bitCount_0f7a4 : ByteArray := prog_8_method_49_code
def yJ6_bitCount_0f7a4 : MethodName := ⟨RJ6, "bitCount", "(I)I"⟩
def RJ9 : String := "java/lang/Math"
def TJ9 : u_T := fun k => match k with
  | _ => ("", "", "", false)
def tyJ9 : Nat → FieldType := fun k => match k with
  | _ => .int
theorem nmJ9 : ∀ a, a < 0 → ∀ b, b < 0 → a ≠ b → (TJ9 a).2.1 ≠ (TJ9 b).2.1 := by decide +kernel
theorem tyJ9_ok : ∀ k, k < 0 → parseFieldDescriptor (TJ9 k).2.2.1 = some (tyJ9 k) := by decide +kernel
abbrev cJ9_max_7cf53 : ByteArray := prog_9_method_65_code
def yJ9_max_7cf53 : MethodName := ⟨RJ9, "max", "(II)I"⟩
abbrev cJ9_min_7cf53 : ByteArray := prog_9_method_69_code
def yJ9_min_7cf53 : MethodName := ⟨RJ9, "min", "(II)I"⟩
def RJ0 : String := "java/lang/String"
def TJ0 : u_T := fun k => match k with
  | _ => ("", "", "", false)
def tyJ0 : Nat → FieldType := fun k => match k with
  | _ => .int
theorem nmJ0 : ∀ a, a < 0 → ∀ b, b < 0 → a ≠ b → (TJ0 a).2.1 ≠ (TJ0 b).2.1 := by decide +kernel
theorem tyJ0_ok : ∀ k, k < 0 → parseFieldDescriptor (TJ0 k).2.2.1 = some (tyJ0 k) := by decide +kernel
abbrev cJ0_length_8abf5 : ByteArray := prog_10_method_54_code
def yJ0_length_8abf5 : MethodName := ⟨RJ0, "length", "()I"⟩
abbrev cJ0_charAt_5068e : ByteArray := prog_10_method_56_code
def yJ0_charAt_5068e : MethodName := ⟨RJ0, "charAt", "(I)C"⟩
abbrev cJ0_coder_7d493 : ByteArray := prog_10_method_152_code
def yJ0_coder_7d493 : MethodName := ⟨RJ0, "coder", "()B"⟩
abbrev cJ0_isLatin1_aae02 : ByteArray := prog_10_method_154_code
def yJ0_isLatin1_aae02 : MethodName := ⟨RJ0, "isLatin1", "()Z"⟩
abbrev cJ0_checkIndex_df160 : ByteArray := prog_10_method_155_code
def yJ0_checkIndex_df160 : MethodName := ⟨RJ0, "checkIndex", "(II)V"⟩
def RJ1 : String := "java/lang/StringLatin1"
def TJ1 : u_T := fun k => match k with
  | _ => ("", "", "", false)
def tyJ1 : Nat → FieldType := fun k => match k with
  | _ => .int
theorem nmJ1 : ∀ a, a < 0 → ∀ b, b < 0 → a ≠ b → (TJ1 a).2.1 ≠ (TJ1 b).2.1 := by decide +kernel
theorem tyJ1_ok : ∀ k, k < 0 → parseFieldDescriptor (TJ1 k).2.2.1 = some (tyJ1 k) := by decide +kernel
abbrev cJ1_charAt_3b067 : ByteArray := prog_11_method_2_code
def yJ1_charAt_3b067 : MethodName := ⟨RJ1, "charAt", "([BI)C"⟩
def RJ2 : String := "java/lang/StringUTF16"
def TJ2 : u_T := fun k => match k with
  | _ => ("", "", "", false)
def tyJ2 : Nat → FieldType := fun k => match k with
  | _ => .int
theorem nmJ2 : ∀ a, a < 0 → ∀ b, b < 0 → a ≠ b → (TJ2 a).2.1 ≠ (TJ2 b).2.1 := by decide +kernel
theorem tyJ2_ok : ∀ k, k < 0 → parseFieldDescriptor (TJ2 k).2.2.1 = some (tyJ2 k) := by decide +kernel
abbrev cJ2_getChar_3b067 : ByteArray := prog_12_method_5_code
def yJ2_getChar_3b067 : MethodName := ⟨RJ2, "getChar", "([BI)C"⟩
abbrev cJ2_length_9d52b : ByteArray := prog_12_method_6_code
def yJ2_length_9d52b : MethodName := ⟨RJ2, "length", "([B)I"⟩
abbrev cJ2_charAt_3b067 : ByteArray := prog_12_method_83_code
def yJ2_charAt_3b067 : MethodName := ⟨RJ2, "charAt", "([BI)C"⟩
abbrev cJ2_checkIndex_2214a : ByteArray := prog_12_method_91_code
def yJ2_checkIndex_2214a : MethodName := ⟨RJ2, "checkIndex", "(I[B)V"⟩
def RJ10 : String := "java/lang/System"
def TJ10 : u_T := fun k => match k with
  | _ => ("", "", "", false)
def tyJ10 : Nat → FieldType := fun k => match k with
  | _ => .int
theorem nmJ10 : ∀ a, a < 0 → ∀ b, b < 0 → a ≠ b → (TJ10 a).2.1 ≠ (TJ10 b).2.1 := by decide +kernel
theorem tyJ10_ok : ∀ k, k < 0 → parseFieldDescriptor (TJ10 k).2.2.1 = some (tyJ10 k) := by decide +kernel
def RJ3 : String := "jdk/internal/util/Preconditions"
def TJ3 : u_T := fun k => match k with
  | _ => ("", "", "", false)
def tyJ3 : Nat → FieldType := fun k => match k with
  | _ => .int
theorem nmJ3 : ∀ a, a < 0 → ∀ b, b < 0 → a ≠ b → (TJ3 a).2.1 ≠ (TJ3 b).2.1 := by decide +kernel
theorem tyJ3_ok : ∀ k, k < 0 → parseFieldDescriptor (TJ3 k).2.2.1 = some (tyJ3 k) := by decide +kernel
abbrev cJ3_checkIndex_8e157 : ByteArray := prog_14_method_11_code
def yJ3_checkIndex_8e157 : MethodName := ⟨RJ3, "checkIndex", "(IILjava/util/function/BiFunction;)I"⟩
def RL : String := "NextHouseUpLaw"
abbrev cL_law : ByteArray := code
def yL_law : MethodName := ⟨RL, "law", "([I)Z"⟩
abbrev vwCl : List vw_C := [(RX0, TX0, 3), (RX1, TX1, 8), (RX2, TX2, 11), (RX3, TX3, 15), (RX4, TX4, 8), (RX5, TX5, 44)]
end
section
theorem dX0_init_0 : decode cX0_init 0 = .ok (.aload_n 0, 1) := by decide +kernel
theorem dX0_init_1 : decode cX0_init 1 = .ok (.invokespecial 1, 3) := by decide +kernel
theorem dX0_init_4 : decode cX0_init 4 = .ok (.aload_n 0, 1) := by decide +kernel
theorem dX0_init_5 : decode cX0_init 5 = .ok (.iconst (-1), 1) := by decide +kernel
theorem dX0_init_6 : decode cX0_init 6 = .ok (.putfield 9, 3) := by decide +kernel
theorem dX0_init_9 : decode cX0_init 9 = .ok (.aload_n 0, 1) := by decide +kernel
theorem dX0_init_10 : decode cX0_init 10 = .ok (.bipush 40, 2) := by decide +kernel
theorem dX0_init_12 : decode cX0_init 12 = .ok (.newarray .int, 2) := by decide +kernel
theorem dX0_init_14 : decode cX0_init 14 = .ok (.putfield 13, 3) := by decide +kernel
theorem dX0_init_17 : decode cX0_init 17 = .ok (.return_, 1) := by decide +kernel
theorem dX0_become_0 : decode cX0_become 0 = .ok (.aload_n 0, 1) := by decide +kernel
theorem dX0_become_1 : decode cX0_become 1 = .ok (.iload_n 1, 1) := by decide +kernel
theorem dX0_become_2 : decode cX0_become 2 = .ok (.putfield 9, 3) := by decide +kernel
theorem dX0_become_5 : decode cX0_become 5 = .ok (.aload_n 0, 1) := by decide +kernel
theorem dX0_become_6 : decode cX0_become 6 = .ok (.iconst 0, 1) := by decide +kernel
theorem dX0_become_7 : decode cX0_become 7 = .ok (.bipush 40, 2) := by decide +kernel
theorem dX0_become_9 : decode cX0_become 9 = .ok (.iload_n 2, 1) := by decide +kernel
theorem dX0_become_10 : decode cX0_become 10 = .ok (.invokestatic 17, 3) := by decide +kernel
theorem dX0_become_13 : decode cX0_become 13 = .ok (.invokestatic 23, 3) := by decide +kernel
theorem dX0_become_16 : decode cX0_become 16 = .ok (.putfield 26, 3) := by decide +kernel
theorem dX0_become_19 : decode cX0_become 19 = .ok (.iconst 0, 1) := by decide +kernel
theorem dX0_become_20 : decode cX0_become 20 = .ok (.istore_n 3, 1) := by decide +kernel
theorem dX0_become_21 : decode cX0_become 21 = .ok (.iload_n 3, 1) := by decide +kernel
theorem dX0_become_22 : decode cX0_become 22 = .ok (.aload_n 0, 1) := by decide +kernel
theorem dX0_become_23 : decode cX0_become 23 = .ok (.getfield 13, 3) := by decide +kernel
theorem dX0_become_26 : decode cX0_become 26 = .ok (.arraylength, 1) := by decide +kernel
theorem dX0_become_27 : decode cX0_become 27 = .ok (.if_icmp .ge 16, 3) := by decide +kernel
theorem dX0_become_30 : decode cX0_become 30 = .ok (.aload_n 0, 1) := by decide +kernel
theorem dX0_become_31 : decode cX0_become 31 = .ok (.getfield 13, 3) := by decide +kernel
theorem dX0_become_34 : decode cX0_become 34 = .ok (.iload_n 3, 1) := by decide +kernel
theorem dX0_become_35 : decode cX0_become 35 = .ok (.iconst 0, 1) := by decide +kernel
theorem dX0_become_36 : decode cX0_become 36 = .ok (.iastore, 1) := by decide +kernel
theorem dX0_become_37 : decode cX0_become 37 = .ok (.iinc 3 1, 3) := by decide +kernel
theorem dX0_become_40 : decode cX0_become 40 = .ok (.goto (-19), 3) := by decide +kernel
theorem dX0_become_43 : decode cX0_become 43 = .ok (.return_, 1) := by decide +kernel
theorem dX0_isMissing_0 : decode cX0_isMissing 0 = .ok (.aload_n 0, 1) := by decide +kernel
theorem dX0_isMissing_1 : decode cX0_isMissing 1 = .ok (.getfield 9, 3) := by decide +kernel
theorem dX0_isMissing_4 : decode cX0_isMissing 4 = .ok (.iconst (-1), 1) := by decide +kernel
theorem dX0_isMissing_5 : decode cX0_isMissing 5 = .ok (.if_icmp .ne 7, 3) := by decide +kernel
theorem dX0_isMissing_8 : decode cX0_isMissing 8 = .ok (.iconst 1, 1) := by decide +kernel
theorem dX0_isMissing_9 : decode cX0_isMissing 9 = .ok (.goto 4, 3) := by decide +kernel
theorem dX0_isMissing_12 : decode cX0_isMissing 12 = .ok (.iconst 0, 1) := by decide +kernel
theorem dX0_isMissing_13 : decode cX0_isMissing 13 = .ok (.ireturn, 1) := by decide +kernel
theorem dX0_has_0 : decode cX0_has 0 = .ok (.iload_n 1, 1) := by decide +kernel
theorem dX0_has_1 : decode cX0_has 1 = .ok (.ifCond .lt 21, 3) := by decide +kernel
theorem dX0_has_4 : decode cX0_has 4 = .ok (.iload_n 1, 1) := by decide +kernel
theorem dX0_has_5 : decode cX0_has 5 = .ok (.aload_n 0, 1) := by decide +kernel
theorem dX0_has_6 : decode cX0_has 6 = .ok (.getfield 26, 3) := by decide +kernel
theorem dX0_has_9 : decode cX0_has 9 = .ok (.if_icmp .ge 13, 3) := by decide +kernel
theorem dX0_has_12 : decode cX0_has 12 = .ok (.iload_n 1, 1) := by decide +kernel
theorem dX0_has_13 : decode cX0_has 13 = .ok (.bipush 40, 2) := by decide +kernel
theorem dX0_has_15 : decode cX0_has 15 = .ok (.if_icmp .ge 7, 3) := by decide +kernel
theorem dX0_has_18 : decode cX0_has 18 = .ok (.iconst 1, 1) := by decide +kernel
theorem dX0_has_19 : decode cX0_has 19 = .ok (.goto 4, 3) := by decide +kernel
theorem dX0_has_22 : decode cX0_has 22 = .ok (.iconst 0, 1) := by decide +kernel
theorem dX0_has_23 : decode cX0_has 23 = .ok (.ireturn, 1) := by decide +kernel
theorem dX0_hasRun_0 : decode cX0_hasRun 0 = .ok (.iload_n 1, 1) := by decide +kernel
theorem dX0_hasRun_1 : decode cX0_hasRun 1 = .ok (.ifCond .lt 29, 3) := by decide +kernel
theorem dX0_hasRun_4 : decode cX0_hasRun 4 = .ok (.iload_n 2, 1) := by decide +kernel
theorem dX0_hasRun_5 : decode cX0_hasRun 5 = .ok (.ifCond .lt 25, 3) := by decide +kernel
theorem dX0_hasRun_8 : decode cX0_hasRun 8 = .ok (.iload_n 1, 1) := by decide +kernel
theorem dX0_hasRun_9 : decode cX0_hasRun 9 = .ok (.aload_n 0, 1) := by decide +kernel
theorem dX0_hasRun_10 : decode cX0_hasRun 10 = .ok (.getfield 26, 3) := by decide +kernel
theorem dX0_hasRun_13 : decode cX0_hasRun 13 = .ok (.if_icmp .gt 17, 3) := by decide +kernel
theorem dX0_hasRun_16 : decode cX0_hasRun 16 = .ok (.iload_n 2, 1) := by decide +kernel
theorem dX0_hasRun_17 : decode cX0_hasRun 17 = .ok (.aload_n 0, 1) := by decide +kernel
theorem dX0_hasRun_18 : decode cX0_hasRun 18 = .ok (.getfield 26, 3) := by decide +kernel
theorem dX0_hasRun_21 : decode cX0_hasRun 21 = .ok (.iload_n 1, 1) := by decide +kernel
theorem dX0_hasRun_22 : decode cX0_hasRun 22 = .ok (.isub, 1) := by decide +kernel
theorem dX0_hasRun_23 : decode cX0_hasRun 23 = .ok (.if_icmp .gt 7, 3) := by decide +kernel
theorem dX0_hasRun_26 : decode cX0_hasRun 26 = .ok (.iconst 1, 1) := by decide +kernel
theorem dX0_hasRun_27 : decode cX0_hasRun 27 = .ok (.goto 4, 3) := by decide +kernel
theorem dX0_hasRun_30 : decode cX0_hasRun 30 = .ok (.iconst 0, 1) := by decide +kernel
theorem dX0_hasRun_31 : decode cX0_hasRun 31 = .ok (.ireturn, 1) := by decide +kernel
theorem dX0_item_0 : decode cX0_item 0 = .ok (.aload_n 0, 1) := by decide +kernel
theorem dX0_item_1 : decode cX0_item 1 = .ok (.iload_n 1, 1) := by decide +kernel
theorem dX0_item_2 : decode cX0_item 2 = .ok (.invokevirtual 29, 3) := by decide +kernel
theorem dX0_item_5 : decode cX0_item 5 = .ok (.ifCond .eq 12, 3) := by decide +kernel
theorem dX0_item_8 : decode cX0_item 8 = .ok (.aload_n 0, 1) := by decide +kernel
theorem dX0_item_9 : decode cX0_item 9 = .ok (.getfield 13, 3) := by decide +kernel
theorem dX0_item_12 : decode cX0_item 12 = .ok (.iload_n 1, 1) := by decide +kernel
theorem dX0_item_13 : decode cX0_item 13 = .ok (.iaload, 1) := by decide +kernel
theorem dX0_item_14 : decode cX0_item 14 = .ok (.goto 4, 3) := by decide +kernel
theorem dX0_item_17 : decode cX0_item 17 = .ok (.iconst 0, 1) := by decide +kernel
theorem dX0_item_18 : decode cX0_item 18 = .ok (.ireturn, 1) := by decide +kernel
theorem dX0_put_0 : decode cX0_put 0 = .ok (.aload_n 0, 1) := by decide +kernel
theorem dX0_put_1 : decode cX0_put 1 = .ok (.iload_n 1, 1) := by decide +kernel
theorem dX0_put_2 : decode cX0_put 2 = .ok (.invokevirtual 29, 3) := by decide +kernel
theorem dX0_put_5 : decode cX0_put 5 = .ok (.ifCond .eq 35, 3) := by decide +kernel
theorem dX0_put_8 : decode cX0_put 8 = .ok (.aload_n 0, 1) := by decide +kernel
theorem dX0_put_9 : decode cX0_put 9 = .ok (.getfield 13, 3) := by decide +kernel
theorem dX0_put_12 : decode cX0_put 12 = .ok (.iload_n 1, 1) := by decide +kernel
theorem dX0_put_13 : decode cX0_put 13 = .ok (.aload_n 0, 1) := by decide +kernel
theorem dX0_put_14 : decode cX0_put 14 = .ok (.getfield 9, 3) := by decide +kernel
theorem dX0_put_17 : decode cX0_put 17 = .ok (.ifCond .ne 8, 3) := by decide +kernel
theorem dX0_put_20 : decode cX0_put 20 = .ok (.iload_n 2, 1) := by decide +kernel
theorem dX0_put_21 : decode cX0_put 21 = .ok (.i2b, 1) := by decide +kernel
theorem dX0_put_22 : decode cX0_put 22 = .ok (.goto 17, 3) := by decide +kernel
theorem dX0_put_25 : decode cX0_put 25 = .ok (.aload_n 0, 1) := by decide +kernel
theorem dX0_put_26 : decode cX0_put 26 = .ok (.getfield 9, 3) := by decide +kernel
theorem dX0_put_29 : decode cX0_put 29 = .ok (.iconst 1, 1) := by decide +kernel
theorem dX0_put_30 : decode cX0_put 30 = .ok (.if_icmp .ne 8, 3) := by decide +kernel
theorem dX0_put_33 : decode cX0_put 33 = .ok (.iload_n 2, 1) := by decide +kernel
theorem dX0_put_34 : decode cX0_put 34 = .ok (.i2s, 1) := by decide +kernel
theorem dX0_put_35 : decode cX0_put 35 = .ok (.goto 4, 3) := by decide +kernel
theorem dX0_put_38 : decode cX0_put 38 = .ok (.iload_n 2, 1) := by decide +kernel
theorem dX0_put_39 : decode cX0_put 39 = .ok (.iastore, 1) := by decide +kernel
theorem dX0_put_40 : decode cX0_put 40 = .ok (.return_, 1) := by decide +kernel
theorem dX1_init_0 : decode cX1_init 0 = .ok (.aload_n 0, 1) := by decide +kernel
theorem dX1_init_1 : decode cX1_init 1 = .ok (.invokespecial 5, 3) := by decide +kernel
theorem dX1_init_4 : decode cX1_init 4 = .ok (.aload_n 0, 1) := by decide +kernel
theorem dX1_init_5 : decode cX1_init 5 = .ok (.sipush 160, 3) := by decide +kernel
theorem dX1_init_8 : decode cX1_init 8 = .ok (.newarray .int, 2) := by decide +kernel
theorem dX1_init_10 : decode cX1_init 10 = .ok (.putfield 11, 3) := by decide +kernel
theorem dX1_init_13 : decode cX1_init 13 = .ok (.aload_n 0, 1) := by decide +kernel
theorem dX1_init_14 : decode cX1_init 14 = .ok (.aload_n 1, 1) := by decide +kernel
theorem dX1_init_15 : decode cX1_init 15 = .ok (.putfield 15, 3) := by decide +kernel
theorem dX1_init_18 : decode cX1_init 18 = .ok (.return_, 1) := by decide +kernel
theorem dX1_add_0 : decode cX1_add 0 = .ok (.aload_n 0, 1) := by decide +kernel
theorem dX1_add_1 : decode cX1_add 1 = .ok (.getfield 19, 3) := by decide +kernel
theorem dX1_add_4 : decode cX1_add 4 = .ok (.ifCond .lt 13, 3) := by decide +kernel
theorem dX1_add_7 : decode cX1_add 7 = .ok (.aload_n 0, 1) := by decide +kernel
theorem dX1_add_8 : decode cX1_add 8 = .ok (.getfield 19, 3) := by decide +kernel
theorem dX1_add_11 : decode cX1_add 11 = .ok (.sipush 160, 3) := by decide +kernel
theorem dX1_add_14 : decode cX1_add 14 = .ok (.if_icmp .lt 5, 3) := by decide +kernel
theorem dX1_add_17 : decode cX1_add 17 = .ok (.iconst 0, 1) := by decide +kernel
theorem dX1_add_18 : decode cX1_add 18 = .ok (.ireturn, 1) := by decide +kernel
theorem dX1_add_19 : decode cX1_add 19 = .ok (.aload_n 0, 1) := by decide +kernel
theorem dX1_add_20 : decode cX1_add 20 = .ok (.getfield 11, 3) := by decide +kernel
theorem dX1_add_23 : decode cX1_add 23 = .ok (.aload_n 0, 1) := by decide +kernel
theorem dX1_add_24 : decode cX1_add 24 = .ok (.getfield 19, 3) := by decide +kernel
theorem dX1_add_27 : decode cX1_add 27 = .ok (.iload_n 1, 1) := by decide +kernel
theorem dX1_add_28 : decode cX1_add 28 = .ok (.iastore, 1) := by decide +kernel
theorem dX1_add_29 : decode cX1_add 29 = .ok (.aload_n 0, 1) := by decide +kernel
theorem dX1_add_30 : decode cX1_add 30 = .ok (.dup, 1) := by decide +kernel
theorem dX1_add_31 : decode cX1_add 31 = .ok (.getfield 19, 3) := by decide +kernel
theorem dX1_add_34 : decode cX1_add 34 = .ok (.iconst 1, 1) := by decide +kernel
theorem dX1_add_35 : decode cX1_add 35 = .ok (.iadd, 1) := by decide +kernel
theorem dX1_add_36 : decode cX1_add 36 = .ok (.putfield 19, 3) := by decide +kernel
theorem dX1_add_39 : decode cX1_add 39 = .ok (.iconst 1, 1) := by decide +kernel
theorem dX1_add_40 : decode cX1_add 40 = .ok (.ireturn, 1) := by decide +kernel
theorem dX1_addAll_0 : decode cX1_addAll 0 = .ok (.iconst 0, 1) := by decide +kernel
theorem dX1_addAll_1 : decode cX1_addAll 1 = .ok (.istore_n 2, 1) := by decide +kernel
theorem dX1_addAll_2 : decode cX1_addAll 2 = .ok (.iload_n 2, 1) := by decide +kernel
theorem dX1_addAll_3 : decode cX1_addAll 3 = .ok (.aload_n 1, 1) := by decide +kernel
theorem dX1_addAll_4 : decode cX1_addAll 4 = .ok (.invokevirtual 23, 3) := by decide +kernel
theorem dX1_addAll_7 : decode cX1_addAll 7 = .ok (.if_icmp .ge 19, 3) := by decide +kernel
theorem dX1_addAll_10 : decode cX1_addAll 10 = .ok (.aload_n 0, 1) := by decide +kernel
theorem dX1_addAll_11 : decode cX1_addAll 11 = .ok (.aload_n 1, 1) := by decide +kernel
theorem dX1_addAll_12 : decode cX1_addAll 12 = .ok (.iload_n 2, 1) := by decide +kernel
theorem dX1_addAll_13 : decode cX1_addAll 13 = .ok (.invokevirtual 29, 3) := by decide +kernel
theorem dX1_addAll_16 : decode cX1_addAll 16 = .ok (.invokevirtual 33, 3) := by decide +kernel
theorem dX1_addAll_19 : decode cX1_addAll 19 = .ok (.pop, 1) := by decide +kernel
theorem dX1_addAll_20 : decode cX1_addAll 20 = .ok (.iinc 2 1, 3) := by decide +kernel
theorem dX1_addAll_23 : decode cX1_addAll 23 = .ok (.goto (-21), 3) := by decide +kernel
theorem dX1_addAll_26 : decode cX1_addAll 26 = .ok (.return_, 1) := by decide +kernel
theorem dX1_read_0 : decode cX1_read 0 = .ok (.aload_n 0, 1) := by decide +kernel
theorem dX1_read_1 : decode cX1_read 1 = .ok (.iconst (-1), 1) := by decide +kernel
theorem dX1_read_2 : decode cX1_read 2 = .ok (.putfield 37, 3) := by decide +kernel
theorem dX1_read_5 : decode cX1_read 5 = .ok (.aload_n 0, 1) := by decide +kernel
theorem dX1_read_6 : decode cX1_read 6 = .ok (.iconst 0, 1) := by decide +kernel
theorem dX1_read_7 : decode cX1_read 7 = .ok (.putfield 40, 3) := by decide +kernel
theorem dX1_read_10 : decode cX1_read 10 = .ok (.aload_n 0, 1) := by decide +kernel
theorem dX1_read_11 : decode cX1_read 11 = .ok (.invokevirtual 43, 3) := by decide +kernel
theorem dX1_read_14 : decode cX1_read 14 = .ok (.aload_n 0, 1) := by decide +kernel
theorem dX1_read_15 : decode cX1_read 15 = .ok (.getfield 15, 3) := by decide +kernel
theorem dX1_read_18 : decode cX1_read 18 = .ok (.invokevirtual 46, 3) := by decide +kernel
theorem dX1_read_21 : decode cX1_read 21 = .ok (.iconst 0, 1) := by decide +kernel
theorem dX1_read_22 : decode cX1_read 22 = .ok (.istore_n 1, 1) := by decide +kernel
theorem dX1_read_23 : decode cX1_read 23 = .ok (.iload_n 1, 1) := by decide +kernel
theorem dX1_read_24 : decode cX1_read 24 = .ok (.iconst 3, 1) := by decide +kernel
theorem dX1_read_25 : decode cX1_read 25 = .ok (.if_icmp .ge 37, 3) := by decide +kernel
theorem dX1_read_28 : decode cX1_read 28 = .ok (.aload_n 0, 1) := by decide +kernel
theorem dX1_read_29 : decode cX1_read 29 = .ok (.sipush 262, 3) := by decide +kernel
theorem dX1_read_32 : decode cX1_read 32 = .ok (.iload_n 1, 1) := by decide +kernel
theorem dX1_read_33 : decode cX1_read 33 = .ok (.iadd, 1) := by decide +kernel
theorem dX1_read_34 : decode cX1_read 34 = .ok (.invokevirtual 51, 3) := by decide +kernel
theorem dX1_read_37 : decode cX1_read 37 = .ok (.aload_n 0, 1) := by decide +kernel
theorem dX1_read_38 : decode cX1_read 38 = .ok (.iconst 0, 1) := by decide +kernel
theorem dX1_read_39 : decode cX1_read 39 = .ok (.invokevirtual 55, 3) := by decide +kernel
theorem dX1_read_42 : decode cX1_read 42 = .ok (.aload_n 0, 1) := by decide +kernel
theorem dX1_read_43 : decode cX1_read 43 = .ok (.bipush 59, 2) := by decide +kernel
theorem dX1_read_45 : decode cX1_read 45 = .ok (.invokevirtual 51, 3) := by decide +kernel
theorem dX1_read_48 : decode cX1_read 48 = .ok (.aload_n 0, 1) := by decide +kernel
theorem dX1_read_49 : decode cX1_read 49 = .ok (.getfield 15, 3) := by decide +kernel
theorem dX1_read_52 : decode cX1_read 52 = .ok (.iload_n 1, 1) := by decide +kernel
theorem dX1_read_53 : decode cX1_read 53 = .ok (.invokevirtual 58, 3) := by decide +kernel
theorem dX1_read_56 : decode cX1_read 56 = .ok (.iinc 1 1, 3) := by decide +kernel
theorem dX1_read_59 : decode cX1_read 59 = .ok (.goto (-36), 3) := by decide +kernel
theorem dX1_read_62 : decode cX1_read 62 = .ok (.aload_n 0, 1) := by decide +kernel
theorem dX1_read_63 : decode cX1_read 63 = .ok (.iconst 0, 1) := by decide +kernel
theorem dX1_read_64 : decode cX1_read 64 = .ok (.invokevirtual 51, 3) := by decide +kernel
theorem dX1_read_67 : decode cX1_read 67 = .ok (.aload_n 0, 1) := by decide +kernel
theorem dX1_read_68 : decode cX1_read 68 = .ok (.getfield 37, 3) := by decide +kernel
theorem dX1_read_71 : decode cX1_read 71 = .ok (.iconst (-1), 1) := by decide +kernel
theorem dX1_read_72 : decode cX1_read 72 = .ok (.if_icmp .ne 10, 3) := by decide +kernel
theorem dX1_read_75 : decode cX1_read 75 = .ok (.aload_n 0, 1) := by decide +kernel
theorem dX1_read_76 : decode cX1_read 76 = .ok (.getfield 15, 3) := by decide +kernel
theorem dX1_read_79 : decode cX1_read 79 = .ok (.invokevirtual 61, 3) := by decide +kernel
theorem dX1_read_82 : decode cX1_read 82 = .ok (.aload_n 0, 1) := by decide +kernel
theorem dX1_read_83 : decode cX1_read 83 = .ok (.iconst 0, 1) := by decide +kernel
theorem dX1_read_84 : decode cX1_read 84 = .ok (.putfield 19, 3) := by decide +kernel
theorem dX1_read_87 : decode cX1_read 87 = .ok (.aload_n 0, 1) := by decide +kernel
theorem dX1_read_88 : decode cX1_read 88 = .ok (.getfield 37, 3) := by decide +kernel
theorem dX1_read_91 : decode cX1_read 91 = .ok (.ireturn, 1) := by decide +kernel
theorem dX1_readOr_0 : decode cX1_readOr 0 = .ok (.aload_n 0, 1) := by decide +kernel
theorem dX1_readOr_1 : decode cX1_readOr 1 = .ok (.iload_n 1, 1) := by decide +kernel
theorem dX1_readOr_2 : decode cX1_readOr 2 = .ok (.invokevirtual 64, 3) := by decide +kernel
theorem dX1_readOr_5 : decode cX1_readOr 5 = .ok (.iconst 0, 1) := by decide +kernel
theorem dX1_readOr_6 : decode cX1_readOr 6 = .ok (.istore_n 2, 1) := by decide +kernel
theorem dX1_readOr_7 : decode cX1_readOr 7 = .ok (.iload_n 2, 1) := by decide +kernel
theorem dX1_readOr_8 : decode cX1_readOr 8 = .ok (.sipush 160, 3) := by decide +kernel
theorem dX1_readOr_11 : decode cX1_readOr 11 = .ok (.if_icmp .ge 37, 3) := by decide +kernel
theorem dX1_readOr_14 : decode cX1_readOr 14 = .ok (.aload_n 0, 1) := by decide +kernel
theorem dX1_readOr_15 : decode cX1_readOr 15 = .ok (.getfield 67, 3) := by decide +kernel
theorem dX1_readOr_18 : decode cX1_readOr 18 = .ok (.sipush 265, 3) := by decide +kernel
theorem dX1_readOr_21 : decode cX1_readOr 21 = .ok (.if_icmp .ne 27, 3) := by decide +kernel
theorem dX1_readOr_24 : decode cX1_readOr 24 = .ok (.aload_n 0, 1) := by decide +kernel
theorem dX1_readOr_25 : decode cX1_readOr 25 = .ok (.invokevirtual 43, 3) := by decide +kernel
theorem dX1_readOr_28 : decode cX1_readOr 28 = .ok (.aload_n 0, 1) := by decide +kernel
theorem dX1_readOr_29 : decode cX1_readOr 29 = .ok (.iload_n 1, 1) := by decide +kernel
theorem dX1_readOr_30 : decode cX1_readOr 30 = .ok (.invokevirtual 64, 3) := by decide +kernel
theorem dX1_readOr_33 : decode cX1_readOr 33 = .ok (.aload_n 0, 1) := by decide +kernel
theorem dX1_readOr_34 : decode cX1_readOr 34 = .ok (.getfield 15, 3) := by decide +kernel
theorem dX1_readOr_37 : decode cX1_readOr 37 = .ok (.bipush (-11), 2) := by decide +kernel
theorem dX1_readOr_39 : decode cX1_readOr 39 = .ok (.invokevirtual 70, 3) := by decide +kernel
theorem dX1_readOr_42 : decode cX1_readOr 42 = .ok (.iinc 2 1, 3) := by decide +kernel
theorem dX1_readOr_45 : decode cX1_readOr 45 = .ok (.goto (-38), 3) := by decide +kernel
theorem dX1_readOr_48 : decode cX1_readOr 48 = .ok (.return_, 1) := by decide +kernel
theorem dX1_readAnd_0 : decode cX1_readAnd 0 = .ok (.aload_n 0, 1) := by decide +kernel
theorem dX1_readAnd_1 : decode cX1_readAnd 1 = .ok (.iload_n 1, 1) := by decide +kernel
theorem dX1_readAnd_2 : decode cX1_readAnd 2 = .ok (.invokevirtual 72, 3) := by decide +kernel
theorem dX1_readAnd_5 : decode cX1_readAnd 5 = .ok (.iconst 0, 1) := by decide +kernel
theorem dX1_readAnd_6 : decode cX1_readAnd 6 = .ok (.istore_n 2, 1) := by decide +kernel
theorem dX1_readAnd_7 : decode cX1_readAnd 7 = .ok (.iload_n 2, 1) := by decide +kernel
theorem dX1_readAnd_8 : decode cX1_readAnd 8 = .ok (.sipush 160, 3) := by decide +kernel
theorem dX1_readAnd_11 : decode cX1_readAnd 11 = .ok (.if_icmp .ge 37, 3) := by decide +kernel
theorem dX1_readAnd_14 : decode cX1_readAnd 14 = .ok (.aload_n 0, 1) := by decide +kernel
theorem dX1_readAnd_15 : decode cX1_readAnd 15 = .ok (.getfield 67, 3) := by decide +kernel
theorem dX1_readAnd_18 : decode cX1_readAnd 18 = .ok (.sipush 266, 3) := by decide +kernel
theorem dX1_readAnd_21 : decode cX1_readAnd 21 = .ok (.if_icmp .ne 27, 3) := by decide +kernel
theorem dX1_readAnd_24 : decode cX1_readAnd 24 = .ok (.aload_n 0, 1) := by decide +kernel
theorem dX1_readAnd_25 : decode cX1_readAnd 25 = .ok (.invokevirtual 43, 3) := by decide +kernel
theorem dX1_readAnd_28 : decode cX1_readAnd 28 = .ok (.aload_n 0, 1) := by decide +kernel
theorem dX1_readAnd_29 : decode cX1_readAnd 29 = .ok (.iload_n 1, 1) := by decide +kernel
theorem dX1_readAnd_30 : decode cX1_readAnd 30 = .ok (.invokevirtual 72, 3) := by decide +kernel
theorem dX1_readAnd_33 : decode cX1_readAnd 33 = .ok (.aload_n 0, 1) := by decide +kernel
theorem dX1_readAnd_34 : decode cX1_readAnd 34 = .ok (.getfield 15, 3) := by decide +kernel
theorem dX1_readAnd_37 : decode cX1_readAnd 37 = .ok (.bipush (-12), 2) := by decide +kernel
theorem dX1_readAnd_39 : decode cX1_readAnd 39 = .ok (.invokevirtual 70, 3) := by decide +kernel
theorem dX1_readAnd_42 : decode cX1_readAnd 42 = .ok (.iinc 2 1, 3) := by decide +kernel
theorem dX1_readAnd_45 : decode cX1_readAnd 45 = .ok (.goto (-38), 3) := by decide +kernel
theorem dX1_readAnd_48 : decode cX1_readAnd 48 = .ok (.return_, 1) := by decide +kernel
theorem dX1_readNot_0 : decode cX1_readNot 0 = .ok (.aload_n 0, 1) := by decide +kernel
theorem dX1_readNot_1 : decode cX1_readNot 1 = .ok (.getfield 67, 3) := by decide +kernel
theorem dX1_readNot_4 : decode cX1_readNot 4 = .ok (.sipush 267, 3) := by decide +kernel
theorem dX1_readNot_7 : decode cX1_readNot 7 = .ok (.if_icmp .ne 28, 3) := by decide +kernel
theorem dX1_readNot_10 : decode cX1_readNot 10 = .ok (.aload_n 0, 1) := by decide +kernel
theorem dX1_readNot_11 : decode cX1_readNot 11 = .ok (.iload_n 1, 1) := by decide +kernel
theorem dX1_readNot_12 : decode cX1_readNot 12 = .ok (.invokevirtual 75, 3) := by decide +kernel
theorem dX1_readNot_15 : decode cX1_readNot 15 = .ok (.ifCond .eq 19, 3) := by decide +kernel
theorem dX1_readNot_18 : decode cX1_readNot 18 = .ok (.aload_n 0, 1) := by decide +kernel
theorem dX1_readNot_19 : decode cX1_readNot 19 = .ok (.iload_n 1, 1) := by decide +kernel
theorem dX1_readNot_20 : decode cX1_readNot 20 = .ok (.iconst 1, 1) := by decide +kernel
theorem dX1_readNot_21 : decode cX1_readNot 21 = .ok (.iadd, 1) := by decide +kernel
theorem dX1_readNot_22 : decode cX1_readNot 22 = .ok (.invokevirtual 72, 3) := by decide +kernel
theorem dX1_readNot_25 : decode cX1_readNot 25 = .ok (.aload_n 0, 1) := by decide +kernel
theorem dX1_readNot_26 : decode cX1_readNot 26 = .ok (.getfield 15, 3) := by decide +kernel
theorem dX1_readNot_29 : decode cX1_readNot 29 = .ok (.bipush (-21), 2) := by decide +kernel
theorem dX1_readNot_31 : decode cX1_readNot 31 = .ok (.invokevirtual 70, 3) := by decide +kernel
theorem dX1_readNot_34 : decode cX1_readNot 34 = .ok (.return_, 1) := by decide +kernel
theorem dX1_readNot_35 : decode cX1_readNot 35 = .ok (.aload_n 0, 1) := by decide +kernel
theorem dX1_readNot_36 : decode cX1_readNot 36 = .ok (.iload_n 1, 1) := by decide +kernel
theorem dX1_readNot_37 : decode cX1_readNot 37 = .ok (.invokevirtual 78, 3) := by decide +kernel
theorem dX1_readNot_40 : decode cX1_readNot 40 = .ok (.aload_n 0, 1) := by decide +kernel
theorem dX1_readNot_41 : decode cX1_readNot 41 = .ok (.getfield 67, 3) := by decide +kernel
theorem dX1_readNot_44 : decode cX1_readNot 44 = .ok (.bipush 60, 2) := by decide +kernel
theorem dX1_readNot_46 : decode cX1_readNot 46 = .ok (.if_icmp .eq 12, 3) := by decide +kernel
theorem dX1_readNot_49 : decode cX1_readNot 49 = .ok (.aload_n 0, 1) := by decide +kernel
theorem dX1_readNot_50 : decode cX1_readNot 50 = .ok (.getfield 67, 3) := by decide +kernel
theorem dX1_readNot_53 : decode cX1_readNot 53 = .ok (.bipush 61, 2) := by decide +kernel
theorem dX1_readNot_55 : decode cX1_readNot 55 = .ok (.if_icmp .ne 37, 3) := by decide +kernel
theorem dX1_readNot_58 : decode cX1_readNot 58 = .ok (.aload_n 0, 1) := by decide +kernel
theorem dX1_readNot_59 : decode cX1_readNot 59 = .ok (.getfield 67, 3) := by decide +kernel
theorem dX1_readNot_62 : decode cX1_readNot 62 = .ok (.bipush 60, 2) := by decide +kernel
theorem dX1_readNot_64 : decode cX1_readNot 64 = .ok (.if_icmp .ne 8, 3) := by decide +kernel
theorem dX1_readNot_67 : decode cX1_readNot 67 = .ok (.bipush (-13), 2) := by decide +kernel
theorem dX1_readNot_69 : decode cX1_readNot 69 = .ok (.goto 5, 3) := by decide +kernel
theorem dX1_readNot_72 : decode cX1_readNot 72 = .ok (.bipush (-14), 2) := by decide +kernel
theorem dX1_readNot_74 : decode cX1_readNot 74 = .ok (.istore_n 2, 1) := by decide +kernel
theorem dX1_readNot_75 : decode cX1_readNot 75 = .ok (.aload_n 0, 1) := by decide +kernel
theorem dX1_readNot_76 : decode cX1_readNot 76 = .ok (.invokevirtual 43, 3) := by decide +kernel
theorem dX1_readNot_79 : decode cX1_readNot 79 = .ok (.aload_n 0, 1) := by decide +kernel
theorem dX1_readNot_80 : decode cX1_readNot 80 = .ok (.iload_n 1, 1) := by decide +kernel
theorem dX1_readNot_81 : decode cX1_readNot 81 = .ok (.invokevirtual 78, 3) := by decide +kernel
theorem dX1_readNot_84 : decode cX1_readNot 84 = .ok (.aload_n 0, 1) := by decide +kernel
theorem dX1_readNot_85 : decode cX1_readNot 85 = .ok (.getfield 15, 3) := by decide +kernel
theorem dX1_readNot_88 : decode cX1_readNot 88 = .ok (.iload_n 2, 1) := by decide +kernel
theorem dX1_readNot_89 : decode cX1_readNot 89 = .ok (.invokevirtual 70, 3) := by decide +kernel
theorem dX1_readNot_92 : decode cX1_readNot 92 = .ok (.return_, 1) := by decide +kernel
theorem dX1_readSum_0 : decode cX1_readSum 0 = .ok (.aload_n 0, 1) := by decide +kernel
theorem dX1_readSum_1 : decode cX1_readSum 1 = .ok (.iload_n 1, 1) := by decide +kernel
theorem dX1_readSum_2 : decode cX1_readSum 2 = .ok (.invokevirtual 81, 3) := by decide +kernel
theorem dX1_readSum_5 : decode cX1_readSum 5 = .ok (.iconst 0, 1) := by decide +kernel
theorem dX1_readSum_6 : decode cX1_readSum 6 = .ok (.istore_n 2, 1) := by decide +kernel
theorem dX1_readSum_7 : decode cX1_readSum 7 = .ok (.iload_n 2, 1) := by decide +kernel
theorem dX1_readSum_8 : decode cX1_readSum 8 = .ok (.sipush 160, 3) := by decide +kernel
theorem dX1_readSum_11 : decode cX1_readSum 11 = .ok (.if_icmp .ge 61, 3) := by decide +kernel
theorem dX1_readSum_14 : decode cX1_readSum 14 = .ok (.aload_n 0, 1) := by decide +kernel
theorem dX1_readSum_15 : decode cX1_readSum 15 = .ok (.getfield 67, 3) := by decide +kernel
theorem dX1_readSum_18 : decode cX1_readSum 18 = .ok (.bipush 43, 2) := by decide +kernel
theorem dX1_readSum_20 : decode cX1_readSum 20 = .ok (.if_icmp .eq 12, 3) := by decide +kernel
theorem dX1_readSum_23 : decode cX1_readSum 23 = .ok (.aload_n 0, 1) := by decide +kernel
theorem dX1_readSum_24 : decode cX1_readSum 24 = .ok (.getfield 67, 3) := by decide +kernel
theorem dX1_readSum_27 : decode cX1_readSum 27 = .ok (.bipush 45, 2) := by decide +kernel
theorem dX1_readSum_29 : decode cX1_readSum 29 = .ok (.if_icmp .ne 43, 3) := by decide +kernel
theorem dX1_readSum_32 : decode cX1_readSum 32 = .ok (.aload_n 0, 1) := by decide +kernel
theorem dX1_readSum_33 : decode cX1_readSum 33 = .ok (.getfield 67, 3) := by decide +kernel
theorem dX1_readSum_36 : decode cX1_readSum 36 = .ok (.bipush 43, 2) := by decide +kernel
theorem dX1_readSum_38 : decode cX1_readSum 38 = .ok (.if_icmp .ne 8, 3) := by decide +kernel
theorem dX1_readSum_41 : decode cX1_readSum 41 = .ok (.bipush (-15), 2) := by decide +kernel
theorem dX1_readSum_43 : decode cX1_readSum 43 = .ok (.goto 5, 3) := by decide +kernel
theorem dX1_readSum_46 : decode cX1_readSum 46 = .ok (.bipush (-16), 2) := by decide +kernel
theorem dX1_readSum_48 : decode cX1_readSum 48 = .ok (.istore_n 3, 1) := by decide +kernel
theorem dX1_readSum_49 : decode cX1_readSum 49 = .ok (.aload_n 0, 1) := by decide +kernel
theorem dX1_readSum_50 : decode cX1_readSum 50 = .ok (.invokevirtual 43, 3) := by decide +kernel
theorem dX1_readSum_53 : decode cX1_readSum 53 = .ok (.aload_n 0, 1) := by decide +kernel
theorem dX1_readSum_54 : decode cX1_readSum 54 = .ok (.iload_n 1, 1) := by decide +kernel
theorem dX1_readSum_55 : decode cX1_readSum 55 = .ok (.invokevirtual 81, 3) := by decide +kernel
theorem dX1_readSum_58 : decode cX1_readSum 58 = .ok (.aload_n 0, 1) := by decide +kernel
theorem dX1_readSum_59 : decode cX1_readSum 59 = .ok (.getfield 15, 3) := by decide +kernel
theorem dX1_readSum_62 : decode cX1_readSum 62 = .ok (.iload_n 3, 1) := by decide +kernel
theorem dX1_readSum_63 : decode cX1_readSum 63 = .ok (.invokevirtual 70, 3) := by decide +kernel
theorem dX1_readSum_66 : decode cX1_readSum 66 = .ok (.iinc 2 1, 3) := by decide +kernel
theorem dX1_readSum_69 : decode cX1_readSum 69 = .ok (.goto (-62), 3) := by decide +kernel
theorem dX1_readSum_72 : decode cX1_readSum 72 = .ok (.return_, 1) := by decide +kernel
theorem dX1_readTerm_0 : decode cX1_readTerm 0 = .ok (.aload_n 0, 1) := by decide +kernel
theorem dX1_readTerm_1 : decode cX1_readTerm 1 = .ok (.iload_n 1, 1) := by decide +kernel
theorem dX1_readTerm_2 : decode cX1_readTerm 2 = .ok (.invokevirtual 84, 3) := by decide +kernel
theorem dX1_readTerm_5 : decode cX1_readTerm 5 = .ok (.iconst 0, 1) := by decide +kernel
theorem dX1_readTerm_6 : decode cX1_readTerm 6 = .ok (.istore_n 2, 1) := by decide +kernel
theorem dX1_readTerm_7 : decode cX1_readTerm 7 = .ok (.iload_n 2, 1) := by decide +kernel
theorem dX1_readTerm_8 : decode cX1_readTerm 8 = .ok (.sipush 160, 3) := by decide +kernel
theorem dX1_readTerm_11 : decode cX1_readTerm 11 = .ok (.if_icmp .ge 36, 3) := by decide +kernel
theorem dX1_readTerm_14 : decode cX1_readTerm 14 = .ok (.aload_n 0, 1) := by decide +kernel
theorem dX1_readTerm_15 : decode cX1_readTerm 15 = .ok (.getfield 67, 3) := by decide +kernel
theorem dX1_readTerm_18 : decode cX1_readTerm 18 = .ok (.bipush 42, 2) := by decide +kernel
theorem dX1_readTerm_20 : decode cX1_readTerm 20 = .ok (.if_icmp .ne 27, 3) := by decide +kernel
theorem dX1_readTerm_23 : decode cX1_readTerm 23 = .ok (.aload_n 0, 1) := by decide +kernel
theorem dX1_readTerm_24 : decode cX1_readTerm 24 = .ok (.invokevirtual 43, 3) := by decide +kernel
theorem dX1_readTerm_27 : decode cX1_readTerm 27 = .ok (.aload_n 0, 1) := by decide +kernel
theorem dX1_readTerm_28 : decode cX1_readTerm 28 = .ok (.iload_n 1, 1) := by decide +kernel
theorem dX1_readTerm_29 : decode cX1_readTerm 29 = .ok (.invokevirtual 84, 3) := by decide +kernel
theorem dX1_readTerm_32 : decode cX1_readTerm 32 = .ok (.aload_n 0, 1) := by decide +kernel
theorem dX1_readTerm_33 : decode cX1_readTerm 33 = .ok (.getfield 15, 3) := by decide +kernel
theorem dX1_readTerm_36 : decode cX1_readTerm 36 = .ok (.bipush (-17), 2) := by decide +kernel
theorem dX1_readTerm_38 : decode cX1_readTerm 38 = .ok (.invokevirtual 70, 3) := by decide +kernel
theorem dX1_readTerm_41 : decode cX1_readTerm 41 = .ok (.iinc 2 1, 3) := by decide +kernel
theorem dX1_readTerm_44 : decode cX1_readTerm 44 = .ok (.goto (-37), 3) := by decide +kernel
theorem dX1_readTerm_47 : decode cX1_readTerm 47 = .ok (.return_, 1) := by decide +kernel
theorem dX1_readOne_0 : decode cX1_readOne 0 = .ok (.aload_n 0, 1) := by decide +kernel
theorem dX1_readOne_1 : decode cX1_readOne 1 = .ok (.getfield 67, 3) := by decide +kernel
theorem dX1_readOne_4 : decode cX1_readOne 4 = .ok (.iconst 1, 1) := by decide +kernel
theorem dX1_readOne_5 : decode cX1_readOne 5 = .ok (.if_icmp .ne 21, 3) := by decide +kernel
theorem dX1_readOne_8 : decode cX1_readOne 8 = .ok (.aload_n 0, 1) := by decide +kernel
theorem dX1_readOne_9 : decode cX1_readOne 9 = .ok (.getfield 15, 3) := by decide +kernel
theorem dX1_readOne_12 : decode cX1_readOne 12 = .ok (.aload_n 0, 1) := by decide +kernel
theorem dX1_readOne_13 : decode cX1_readOne 13 = .ok (.getfield 87, 3) := by decide +kernel
theorem dX1_readOne_16 : decode cX1_readOne 16 = .ok (.invokevirtual 70, 3) := by decide +kernel
theorem dX1_readOne_19 : decode cX1_readOne 19 = .ok (.aload_n 0, 1) := by decide +kernel
theorem dX1_readOne_20 : decode cX1_readOne 20 = .ok (.invokevirtual 43, 3) := by decide +kernel
theorem dX1_readOne_23 : decode cX1_readOne 23 = .ok (.goto 120, 3) := by decide +kernel
theorem dX1_readOne_26 : decode cX1_readOne 26 = .ok (.aload_n 0, 1) := by decide +kernel
theorem dX1_readOne_27 : decode cX1_readOne 27 = .ok (.getfield 67, 3) := by decide +kernel
theorem dX1_readOne_30 : decode cX1_readOne 30 = .ok (.sipush 256, 3) := by decide +kernel
theorem dX1_readOne_33 : decode cX1_readOne 33 = .ok (.if_icmp .lt 37, 3) := by decide +kernel
theorem dX1_readOne_36 : decode cX1_readOne 36 = .ok (.aload_n 0, 1) := by decide +kernel
theorem dX1_readOne_37 : decode cX1_readOne 37 = .ok (.getfield 67, 3) := by decide +kernel
theorem dX1_readOne_40 : decode cX1_readOne 40 = .ok (.sipush 262, 3) := by decide +kernel
theorem dX1_readOne_43 : decode cX1_readOne 43 = .ok (.if_icmp .ge 27, 3) := by decide +kernel
theorem dX1_readOne_46 : decode cX1_readOne 46 = .ok (.aload_n 0, 1) := by decide +kernel
theorem dX1_readOne_47 : decode cX1_readOne 47 = .ok (.getfield 15, 3) := by decide +kernel
theorem dX1_readOne_50 : decode cX1_readOne 50 = .ok (.iconst (-1), 1) := by decide +kernel
theorem dX1_readOne_51 : decode cX1_readOne 51 = .ok (.aload_n 0, 1) := by decide +kernel
theorem dX1_readOne_52 : decode cX1_readOne 52 = .ok (.getfield 67, 3) := by decide +kernel
theorem dX1_readOne_55 : decode cX1_readOne 55 = .ok (.sipush 256, 3) := by decide +kernel
theorem dX1_readOne_58 : decode cX1_readOne 58 = .ok (.isub, 1) := by decide +kernel
theorem dX1_readOne_59 : decode cX1_readOne 59 = .ok (.isub, 1) := by decide +kernel
theorem dX1_readOne_60 : decode cX1_readOne 60 = .ok (.invokevirtual 70, 3) := by decide +kernel
theorem dX1_readOne_63 : decode cX1_readOne 63 = .ok (.aload_n 0, 1) := by decide +kernel
theorem dX1_readOne_64 : decode cX1_readOne 64 = .ok (.invokevirtual 43, 3) := by decide +kernel
theorem dX1_readOne_67 : decode cX1_readOne 67 = .ok (.goto 76, 3) := by decide +kernel
theorem dX1_readOne_70 : decode cX1_readOne 70 = .ok (.aload_n 0, 1) := by decide +kernel
theorem dX1_readOne_71 : decode cX1_readOne 71 = .ok (.getfield 67, 3) := by decide +kernel
theorem dX1_readOne_74 : decode cX1_readOne 74 = .ok (.bipush 45, 2) := by decide +kernel
theorem dX1_readOne_76 : decode cX1_readOne 76 = .ok (.if_icmp .ne 30, 3) := by decide +kernel
theorem dX1_readOne_79 : decode cX1_readOne 79 = .ok (.aload_n 0, 1) := by decide +kernel
theorem dX1_readOne_80 : decode cX1_readOne 80 = .ok (.iload_n 1, 1) := by decide +kernel
theorem dX1_readOne_81 : decode cX1_readOne 81 = .ok (.invokevirtual 75, 3) := by decide +kernel
theorem dX1_readOne_84 : decode cX1_readOne 84 = .ok (.ifCond .eq 59, 3) := by decide +kernel
theorem dX1_readOne_87 : decode cX1_readOne 87 = .ok (.aload_n 0, 1) := by decide +kernel
theorem dX1_readOne_88 : decode cX1_readOne 88 = .ok (.iload_n 1, 1) := by decide +kernel
theorem dX1_readOne_89 : decode cX1_readOne 89 = .ok (.iconst 1, 1) := by decide +kernel
theorem dX1_readOne_90 : decode cX1_readOne 90 = .ok (.iadd, 1) := by decide +kernel
theorem dX1_readOne_91 : decode cX1_readOne 91 = .ok (.invokevirtual 84, 3) := by decide +kernel
theorem dX1_readOne_94 : decode cX1_readOne 94 = .ok (.aload_n 0, 1) := by decide +kernel
theorem dX1_readOne_95 : decode cX1_readOne 95 = .ok (.getfield 15, 3) := by decide +kernel
theorem dX1_readOne_98 : decode cX1_readOne 98 = .ok (.bipush (-22), 2) := by decide +kernel
theorem dX1_readOne_100 : decode cX1_readOne 100 = .ok (.invokevirtual 70, 3) := by decide +kernel
theorem dX1_readOne_103 : decode cX1_readOne 103 = .ok (.goto 40, 3) := by decide +kernel
theorem dX1_readOne_106 : decode cX1_readOne 106 = .ok (.aload_n 0, 1) := by decide +kernel
theorem dX1_readOne_107 : decode cX1_readOne 107 = .ok (.getfield 67, 3) := by decide +kernel
theorem dX1_readOne_110 : decode cX1_readOne 110 = .ok (.bipush 40, 2) := by decide +kernel
theorem dX1_readOne_112 : decode cX1_readOne 112 = .ok (.if_icmp .ne 27, 3) := by decide +kernel
theorem dX1_readOne_115 : decode cX1_readOne 115 = .ok (.aload_n 0, 1) := by decide +kernel
theorem dX1_readOne_116 : decode cX1_readOne 116 = .ok (.iload_n 1, 1) := by decide +kernel
theorem dX1_readOne_117 : decode cX1_readOne 117 = .ok (.invokevirtual 75, 3) := by decide +kernel
theorem dX1_readOne_120 : decode cX1_readOne 120 = .ok (.ifCond .eq 23, 3) := by decide +kernel
theorem dX1_readOne_123 : decode cX1_readOne 123 = .ok (.aload_n 0, 1) := by decide +kernel
theorem dX1_readOne_124 : decode cX1_readOne 124 = .ok (.iload_n 1, 1) := by decide +kernel
theorem dX1_readOne_125 : decode cX1_readOne 125 = .ok (.iconst 1, 1) := by decide +kernel
theorem dX1_readOne_126 : decode cX1_readOne 126 = .ok (.iadd, 1) := by decide +kernel
theorem dX1_readOne_127 : decode cX1_readOne 127 = .ok (.invokevirtual 55, 3) := by decide +kernel
theorem dX1_readOne_130 : decode cX1_readOne 130 = .ok (.aload_n 0, 1) := by decide +kernel
theorem dX1_readOne_131 : decode cX1_readOne 131 = .ok (.bipush 41, 2) := by decide +kernel
theorem dX1_readOne_133 : decode cX1_readOne 133 = .ok (.invokevirtual 51, 3) := by decide +kernel
theorem dX1_readOne_136 : decode cX1_readOne 136 = .ok (.goto 7, 3) := by decide +kernel
theorem dX1_readOne_139 : decode cX1_readOne 139 = .ok (.aload_n 0, 1) := by decide +kernel
theorem dX1_readOne_140 : decode cX1_readOne 140 = .ok (.invokevirtual 90, 3) := by decide +kernel
theorem dX1_readOne_143 : decode cX1_readOne 143 = .ok (.return_, 1) := by decide +kernel
theorem dX1_opens_0 : decode cX1_opens 0 = .ok (.iload_n 1, 1) := by decide +kernel
theorem dX1_opens_1 : decode cX1_opens 1 = .ok (.iconst 5, 1) := by decide +kernel
theorem dX1_opens_2 : decode cX1_opens 2 = .ok (.if_icmp .lt 9, 3) := by decide +kernel
theorem dX1_opens_5 : decode cX1_opens 5 = .ok (.aload_n 0, 1) := by decide +kernel
theorem dX1_opens_6 : decode cX1_opens 6 = .ok (.invokevirtual 90, 3) := by decide +kernel
theorem dX1_opens_9 : decode cX1_opens 9 = .ok (.iconst 0, 1) := by decide +kernel
theorem dX1_opens_10 : decode cX1_opens 10 = .ok (.ireturn, 1) := by decide +kernel
theorem dX1_opens_11 : decode cX1_opens 11 = .ok (.aload_n 0, 1) := by decide +kernel
theorem dX1_opens_12 : decode cX1_opens 12 = .ok (.invokevirtual 43, 3) := by decide +kernel
theorem dX1_opens_15 : decode cX1_opens 15 = .ok (.iconst 1, 1) := by decide +kernel
theorem dX1_opens_16 : decode cX1_opens 16 = .ok (.ireturn, 1) := by decide +kernel
theorem dX1_expect_0 : decode cX1_expect 0 = .ok (.aload_n 0, 1) := by decide +kernel
theorem dX1_expect_1 : decode cX1_expect 1 = .ok (.getfield 67, 3) := by decide +kernel
theorem dX1_expect_4 : decode cX1_expect 4 = .ok (.iload_n 1, 1) := by decide +kernel
theorem dX1_expect_5 : decode cX1_expect 5 = .ok (.if_icmp .eq 10, 3) := by decide +kernel
theorem dX1_expect_8 : decode cX1_expect 8 = .ok (.aload_n 0, 1) := by decide +kernel
theorem dX1_expect_9 : decode cX1_expect 9 = .ok (.invokevirtual 90, 3) := by decide +kernel
theorem dX1_expect_12 : decode cX1_expect 12 = .ok (.goto 14, 3) := by decide +kernel
theorem dX1_expect_15 : decode cX1_expect 15 = .ok (.aload_n 0, 1) := by decide +kernel
theorem dX1_expect_16 : decode cX1_expect 16 = .ok (.getfield 67, 3) := by decide +kernel
theorem dX1_expect_19 : decode cX1_expect 19 = .ok (.ifCond .eq 7, 3) := by decide +kernel
theorem dX1_expect_22 : decode cX1_expect 22 = .ok (.aload_n 0, 1) := by decide +kernel
theorem dX1_expect_23 : decode cX1_expect 23 = .ok (.invokevirtual 43, 3) := by decide +kernel
theorem dX1_expect_26 : decode cX1_expect 26 = .ok (.return_, 1) := by decide +kernel
theorem dX1_refuse_0 : decode cX1_refuse 0 = .ok (.aload_n 0, 1) := by decide +kernel
theorem dX1_refuse_1 : decode cX1_refuse 1 = .ok (.getfield 37, 3) := by decide +kernel
theorem dX1_refuse_4 : decode cX1_refuse 4 = .ok (.iconst (-1), 1) := by decide +kernel
theorem dX1_refuse_5 : decode cX1_refuse 5 = .ok (.if_icmp .ne 11, 3) := by decide +kernel
theorem dX1_refuse_8 : decode cX1_refuse 8 = .ok (.aload_n 0, 1) := by decide +kernel
theorem dX1_refuse_9 : decode cX1_refuse 9 = .ok (.aload_n 0, 1) := by decide +kernel
theorem dX1_refuse_10 : decode cX1_refuse 10 = .ok (.getfield 93, 3) := by decide +kernel
theorem dX1_refuse_13 : decode cX1_refuse 13 = .ok (.putfield 37, 3) := by decide +kernel
theorem dX1_refuse_16 : decode cX1_refuse 16 = .ok (.aload_n 0, 1) := by decide +kernel
theorem dX1_refuse_17 : decode cX1_refuse 17 = .ok (.iconst 2, 1) := by decide +kernel
theorem dX1_refuse_18 : decode cX1_refuse 18 = .ok (.putfield 67, 3) := by decide +kernel
theorem dX1_refuse_21 : decode cX1_refuse 21 = .ok (.return_, 1) := by decide +kernel
theorem dX1_advance_0 : decode cX1_advance 0 = .ok (.iconst 0, 1) := by decide +kernel
theorem dX1_advance_1 : decode cX1_advance 1 = .ok (.istore_n 1, 1) := by decide +kernel
theorem dX1_advance_2 : decode cX1_advance 2 = .ok (.iload_n 1, 1) := by decide +kernel
theorem dX1_advance_3 : decode cX1_advance 3 = .ok (.sipush 160, 3) := by decide +kernel
theorem dX1_advance_6 : decode cX1_advance 6 = .ok (.if_icmp .ge 33, 3) := by decide +kernel
theorem dX1_advance_9 : decode cX1_advance 9 = .ok (.aload_n 0, 1) := by decide +kernel
theorem dX1_advance_10 : decode cX1_advance 10 = .ok (.aload_n 0, 1) := by decide +kernel
theorem dX1_advance_11 : decode cX1_advance 11 = .ok (.getfield 40, 3) := by decide +kernel
theorem dX1_advance_14 : decode cX1_advance 14 = .ok (.invokevirtual 96, 3) := by decide +kernel
theorem dX1_advance_17 : decode cX1_advance 17 = .ok (.invokestatic 100, 3) := by decide +kernel
theorem dX1_advance_20 : decode cX1_advance 20 = .ok (.ifCond .eq 19, 3) := by decide +kernel
theorem dX1_advance_23 : decode cX1_advance 23 = .ok (.aload_n 0, 1) := by decide +kernel
theorem dX1_advance_24 : decode cX1_advance 24 = .ok (.dup, 1) := by decide +kernel
theorem dX1_advance_25 : decode cX1_advance 25 = .ok (.getfield 40, 3) := by decide +kernel
theorem dX1_advance_28 : decode cX1_advance 28 = .ok (.iconst 1, 1) := by decide +kernel
theorem dX1_advance_29 : decode cX1_advance 29 = .ok (.iadd, 1) := by decide +kernel
theorem dX1_advance_30 : decode cX1_advance 30 = .ok (.putfield 40, 3) := by decide +kernel
theorem dX1_advance_33 : decode cX1_advance 33 = .ok (.iinc 1 1, 3) := by decide +kernel
theorem dX1_advance_36 : decode cX1_advance 36 = .ok (.goto (-34), 3) := by decide +kernel
theorem dX1_advance_39 : decode cX1_advance 39 = .ok (.aload_n 0, 1) := by decide +kernel
theorem dX1_advance_40 : decode cX1_advance 40 = .ok (.aload_n 0, 1) := by decide +kernel
theorem dX1_advance_41 : decode cX1_advance 41 = .ok (.getfield 40, 3) := by decide +kernel
theorem dX1_advance_44 : decode cX1_advance 44 = .ok (.putfield 93, 3) := by decide +kernel
theorem dX1_advance_47 : decode cX1_advance 47 = .ok (.aload_n 0, 1) := by decide +kernel
theorem dX1_advance_48 : decode cX1_advance 48 = .ok (.aload_n 0, 1) := by decide +kernel
theorem dX1_advance_49 : decode cX1_advance 49 = .ok (.getfield 40, 3) := by decide +kernel
theorem dX1_advance_52 : decode cX1_advance 52 = .ok (.invokevirtual 96, 3) := by decide +kernel
theorem dX1_advance_55 : decode cX1_advance 55 = .ok (.istore_n 1, 1) := by decide +kernel
theorem dX1_advance_56 : decode cX1_advance 56 = .ok (.iload_n 1, 1) := by decide +kernel
theorem dX1_advance_57 : decode cX1_advance 57 = .ok (.iconst (-1), 1) := by decide +kernel
theorem dX1_advance_58 : decode cX1_advance 58 = .ok (.if_icmp .ne 11, 3) := by decide +kernel
theorem dX1_advance_61 : decode cX1_advance 61 = .ok (.aload_n 0, 1) := by decide +kernel
theorem dX1_advance_62 : decode cX1_advance 62 = .ok (.iconst 0, 1) := by decide +kernel
theorem dX1_advance_63 : decode cX1_advance 63 = .ok (.putfield 67, 3) := by decide +kernel
theorem dX1_advance_66 : decode cX1_advance 66 = .ok (.goto 57, 3) := by decide +kernel
theorem dX1_advance_69 : decode cX1_advance 69 = .ok (.iload_n 1, 1) := by decide +kernel
theorem dX1_advance_70 : decode cX1_advance 70 = .ok (.invokestatic 103, 3) := by decide +kernel
theorem dX1_advance_73 : decode cX1_advance 73 = .ok (.ifCond .eq 10, 3) := by decide +kernel
theorem dX1_advance_76 : decode cX1_advance 76 = .ok (.aload_n 0, 1) := by decide +kernel
theorem dX1_advance_77 : decode cX1_advance 77 = .ok (.invokevirtual 106, 3) := by decide +kernel
theorem dX1_advance_80 : decode cX1_advance 80 = .ok (.goto 43, 3) := by decide +kernel
theorem dX1_advance_83 : decode cX1_advance 83 = .ok (.iload_n 1, 1) := by decide +kernel
theorem dX1_advance_84 : decode cX1_advance 84 = .ok (.invokestatic 109, 3) := by decide +kernel
theorem dX1_advance_87 : decode cX1_advance 87 = .ok (.ifCond .eq 10, 3) := by decide +kernel
theorem dX1_advance_90 : decode cX1_advance 90 = .ok (.aload_n 0, 1) := by decide +kernel
theorem dX1_advance_91 : decode cX1_advance 91 = .ok (.invokevirtual 112, 3) := by decide +kernel
theorem dX1_advance_94 : decode cX1_advance 94 = .ok (.goto 29, 3) := by decide +kernel
theorem dX1_advance_97 : decode cX1_advance 97 = .ok (.aload_n 0, 1) := by decide +kernel
theorem dX1_advance_98 : decode cX1_advance 98 = .ok (.iload_n 1, 1) := by decide +kernel
theorem dX1_advance_99 : decode cX1_advance 99 = .ok (.invokestatic 115, 3) := by decide +kernel
theorem dX1_advance_102 : decode cX1_advance 102 = .ok (.ifCond .eq 7, 3) := by decide +kernel
theorem dX1_advance_105 : decode cX1_advance 105 = .ok (.iload_n 1, 1) := by decide +kernel
theorem dX1_advance_106 : decode cX1_advance 106 = .ok (.goto 4, 3) := by decide +kernel
theorem dX1_advance_109 : decode cX1_advance 109 = .ok (.iconst 2, 1) := by decide +kernel
theorem dX1_advance_110 : decode cX1_advance 110 = .ok (.putfield 67, 3) := by decide +kernel
theorem dX1_advance_113 : decode cX1_advance 113 = .ok (.aload_n 0, 1) := by decide +kernel
theorem dX1_advance_114 : decode cX1_advance 114 = .ok (.dup, 1) := by decide +kernel
theorem dX1_advance_115 : decode cX1_advance 115 = .ok (.getfield 40, 3) := by decide +kernel
theorem dX1_advance_118 : decode cX1_advance 118 = .ok (.iconst 1, 1) := by decide +kernel
theorem dX1_advance_119 : decode cX1_advance 119 = .ok (.iadd, 1) := by decide +kernel
theorem dX1_advance_120 : decode cX1_advance 120 = .ok (.putfield 40, 3) := by decide +kernel
theorem dX1_advance_123 : decode cX1_advance 123 = .ok (.return_, 1) := by decide +kernel
theorem dX1_readWord_0 : decode cX1_readWord 0 = .ok (.iconst 0, 1) := by decide +kernel
theorem dX1_readWord_1 : decode cX1_readWord 1 = .ok (.istore_n 1, 1) := by decide +kernel
theorem dX1_readWord_2 : decode cX1_readWord 2 = .ok (.iload_n 1, 1) := by decide +kernel
theorem dX1_readWord_3 : decode cX1_readWord 3 = .ok (.sipush 160, 3) := by decide +kernel
theorem dX1_readWord_6 : decode cX1_readWord 6 = .ok (.if_icmp .ge 33, 3) := by decide +kernel
theorem dX1_readWord_9 : decode cX1_readWord 9 = .ok (.aload_n 0, 1) := by decide +kernel
theorem dX1_readWord_10 : decode cX1_readWord 10 = .ok (.aload_n 0, 1) := by decide +kernel
theorem dX1_readWord_11 : decode cX1_readWord 11 = .ok (.getfield 40, 3) := by decide +kernel
theorem dX1_readWord_14 : decode cX1_readWord 14 = .ok (.invokevirtual 96, 3) := by decide +kernel
theorem dX1_readWord_17 : decode cX1_readWord 17 = .ok (.invokestatic 103, 3) := by decide +kernel
theorem dX1_readWord_20 : decode cX1_readWord 20 = .ok (.ifCond .eq 19, 3) := by decide +kernel
theorem dX1_readWord_23 : decode cX1_readWord 23 = .ok (.aload_n 0, 1) := by decide +kernel
theorem dX1_readWord_24 : decode cX1_readWord 24 = .ok (.dup, 1) := by decide +kernel
theorem dX1_readWord_25 : decode cX1_readWord 25 = .ok (.getfield 40, 3) := by decide +kernel
theorem dX1_readWord_28 : decode cX1_readWord 28 = .ok (.iconst 1, 1) := by decide +kernel
theorem dX1_readWord_29 : decode cX1_readWord 29 = .ok (.iadd, 1) := by decide +kernel
theorem dX1_readWord_30 : decode cX1_readWord 30 = .ok (.putfield 40, 3) := by decide +kernel
theorem dX1_readWord_33 : decode cX1_readWord 33 = .ok (.iinc 1 1, 3) := by decide +kernel
theorem dX1_readWord_36 : decode cX1_readWord 36 = .ok (.goto (-34), 3) := by decide +kernel
theorem dX1_readWord_39 : decode cX1_readWord 39 = .ok (.aload_n 0, 1) := by decide +kernel
theorem dX1_readWord_40 : decode cX1_readWord 40 = .ok (.iconst 2, 1) := by decide +kernel
theorem dX1_readWord_41 : decode cX1_readWord 41 = .ok (.putfield 67, 3) := by decide +kernel
theorem dX1_readWord_44 : decode cX1_readWord 44 = .ok (.iconst 0, 1) := by decide +kernel
theorem dX1_readWord_45 : decode cX1_readWord 45 = .ok (.istore_n 1, 1) := by decide +kernel
theorem dX1_readWord_46 : decode cX1_readWord 46 = .ok (.iload_n 1, 1) := by decide +kernel
theorem dX1_readWord_47 : decode cX1_readWord 47 = .ok (.bipush 12, 2) := by decide +kernel
theorem dX1_readWord_49 : decode cX1_readWord 49 = .ok (.if_icmp .ge 29, 3) := by decide +kernel
theorem dX1_readWord_52 : decode cX1_readWord 52 = .ok (.aload_n 0, 1) := by decide +kernel
theorem dX1_readWord_53 : decode cX1_readWord 53 = .ok (.iload_n 1, 1) := by decide +kernel
theorem dX1_readWord_54 : decode cX1_readWord 54 = .ok (.invokestatic 118, 3) := by decide +kernel
theorem dX1_readWord_57 : decode cX1_readWord 57 = .ok (.invokevirtual 122, 3) := by decide +kernel
theorem dX1_readWord_60 : decode cX1_readWord 60 = .ok (.ifCond .eq 12, 3) := by decide +kernel
theorem dX1_readWord_63 : decode cX1_readWord 63 = .ok (.aload_n 0, 1) := by decide +kernel
theorem dX1_readWord_64 : decode cX1_readWord 64 = .ok (.sipush 256, 3) := by decide +kernel
theorem dX1_readWord_67 : decode cX1_readWord 67 = .ok (.iload_n 1, 1) := by decide +kernel
theorem dX1_readWord_68 : decode cX1_readWord 68 = .ok (.iadd, 1) := by decide +kernel
theorem dX1_readWord_69 : decode cX1_readWord 69 = .ok (.putfield 67, 3) := by decide +kernel
theorem dX1_readWord_72 : decode cX1_readWord 72 = .ok (.iinc 1 1, 3) := by decide +kernel
theorem dX1_readWord_75 : decode cX1_readWord 75 = .ok (.goto (-29), 3) := by decide +kernel
theorem dX1_readWord_78 : decode cX1_readWord 78 = .ok (.return_, 1) := by decide +kernel
theorem dX1_readNumber_0 : decode cX1_readNumber 0 = .ok (.aload_n 0, 1) := by decide +kernel
theorem dX1_readNumber_1 : decode cX1_readNumber 1 = .ok (.iconst 0, 1) := by decide +kernel
theorem dX1_readNumber_2 : decode cX1_readNumber 2 = .ok (.putfield 87, 3) := by decide +kernel
theorem dX1_readNumber_5 : decode cX1_readNumber 5 = .ok (.iconst 0, 1) := by decide +kernel
theorem dX1_readNumber_6 : decode cX1_readNumber 6 = .ok (.istore_n 1, 1) := by decide +kernel
theorem dX1_readNumber_7 : decode cX1_readNumber 7 = .ok (.iload_n 1, 1) := by decide +kernel
theorem dX1_readNumber_8 : decode cX1_readNumber 8 = .ok (.sipush 160, 3) := by decide +kernel
theorem dX1_readNumber_11 : decode cX1_readNumber 11 = .ok (.if_icmp .ge 56, 3) := by decide +kernel
theorem dX1_readNumber_14 : decode cX1_readNumber 14 = .ok (.aload_n 0, 1) := by decide +kernel
theorem dX1_readNumber_15 : decode cX1_readNumber 15 = .ok (.aload_n 0, 1) := by decide +kernel
theorem dX1_readNumber_16 : decode cX1_readNumber 16 = .ok (.getfield 40, 3) := by decide +kernel
theorem dX1_readNumber_19 : decode cX1_readNumber 19 = .ok (.invokevirtual 96, 3) := by decide +kernel
theorem dX1_readNumber_22 : decode cX1_readNumber 22 = .ok (.invokestatic 109, 3) := by decide +kernel
theorem dX1_readNumber_25 : decode cX1_readNumber 25 = .ok (.ifCond .eq 42, 3) := by decide +kernel
theorem dX1_readNumber_28 : decode cX1_readNumber 28 = .ok (.aload_n 0, 1) := by decide +kernel
theorem dX1_readNumber_29 : decode cX1_readNumber 29 = .ok (.aload_n 0, 1) := by decide +kernel
theorem dX1_readNumber_30 : decode cX1_readNumber 30 = .ok (.getfield 87, 3) := by decide +kernel
theorem dX1_readNumber_33 : decode cX1_readNumber 33 = .ok (.bipush 10, 2) := by decide +kernel
theorem dX1_readNumber_35 : decode cX1_readNumber 35 = .ok (.imul, 1) := by decide +kernel
theorem dX1_readNumber_36 : decode cX1_readNumber 36 = .ok (.aload_n 0, 1) := by decide +kernel
theorem dX1_readNumber_37 : decode cX1_readNumber 37 = .ok (.aload_n 0, 1) := by decide +kernel
theorem dX1_readNumber_38 : decode cX1_readNumber 38 = .ok (.getfield 40, 3) := by decide +kernel
theorem dX1_readNumber_41 : decode cX1_readNumber 41 = .ok (.invokevirtual 96, 3) := by decide +kernel
theorem dX1_readNumber_44 : decode cX1_readNumber 44 = .ok (.iadd, 1) := by decide +kernel
theorem dX1_readNumber_45 : decode cX1_readNumber 45 = .ok (.bipush 48, 2) := by decide +kernel
theorem dX1_readNumber_47 : decode cX1_readNumber 47 = .ok (.isub, 1) := by decide +kernel
theorem dX1_readNumber_48 : decode cX1_readNumber 48 = .ok (.putfield 87, 3) := by decide +kernel
theorem dX1_readNumber_51 : decode cX1_readNumber 51 = .ok (.aload_n 0, 1) := by decide +kernel
theorem dX1_readNumber_52 : decode cX1_readNumber 52 = .ok (.dup, 1) := by decide +kernel
theorem dX1_readNumber_53 : decode cX1_readNumber 53 = .ok (.getfield 40, 3) := by decide +kernel
theorem dX1_readNumber_56 : decode cX1_readNumber 56 = .ok (.iconst 1, 1) := by decide +kernel
theorem dX1_readNumber_57 : decode cX1_readNumber 57 = .ok (.iadd, 1) := by decide +kernel
theorem dX1_readNumber_58 : decode cX1_readNumber 58 = .ok (.putfield 40, 3) := by decide +kernel
theorem dX1_readNumber_61 : decode cX1_readNumber 61 = .ok (.iinc 1 1, 3) := by decide +kernel
theorem dX1_readNumber_64 : decode cX1_readNumber 64 = .ok (.goto (-57), 3) := by decide +kernel
theorem dX1_readNumber_67 : decode cX1_readNumber 67 = .ok (.aload_n 0, 1) := by decide +kernel
theorem dX1_readNumber_68 : decode cX1_readNumber 68 = .ok (.aload_n 0, 1) := by decide +kernel
theorem dX1_readNumber_69 : decode cX1_readNumber 69 = .ok (.getfield 40, 3) := by decide +kernel
theorem dX1_readNumber_72 : decode cX1_readNumber 72 = .ok (.aload_n 0, 1) := by decide +kernel
theorem dX1_readNumber_73 : decode cX1_readNumber 73 = .ok (.getfield 93, 3) := by decide +kernel
theorem dX1_readNumber_76 : decode cX1_readNumber 76 = .ok (.isub, 1) := by decide +kernel
theorem dX1_readNumber_77 : decode cX1_readNumber 77 = .ok (.iconst 4, 1) := by decide +kernel
theorem dX1_readNumber_78 : decode cX1_readNumber 78 = .ok (.if_icmp .gt 7, 3) := by decide +kernel
theorem dX1_readNumber_81 : decode cX1_readNumber 81 = .ok (.iconst 1, 1) := by decide +kernel
theorem dX1_readNumber_82 : decode cX1_readNumber 82 = .ok (.goto 4, 3) := by decide +kernel
theorem dX1_readNumber_85 : decode cX1_readNumber 85 = .ok (.iconst 2, 1) := by decide +kernel
theorem dX1_readNumber_86 : decode cX1_readNumber 86 = .ok (.putfield 67, 3) := by decide +kernel
theorem dX1_readNumber_89 : decode cX1_readNumber 89 = .ok (.return_, 1) := by decide +kernel
theorem dX1_stands_0 : decode cX1_stands 0 = .ok (.aload_n 1, 1) := by decide +kernel
theorem dX1_stands_1 : decode cX1_stands 1 = .ok (.invokevirtual 23, 3) := by decide +kernel
theorem dX1_stands_4 : decode cX1_stands 4 = .ok (.aload_n 0, 1) := by decide +kernel
theorem dX1_stands_5 : decode cX1_stands 5 = .ok (.getfield 40, 3) := by decide +kernel
theorem dX1_stands_8 : decode cX1_stands 8 = .ok (.aload_n 0, 1) := by decide +kernel
theorem dX1_stands_9 : decode cX1_stands 9 = .ok (.getfield 93, 3) := by decide +kernel
theorem dX1_stands_12 : decode cX1_stands 12 = .ok (.isub, 1) := by decide +kernel
theorem dX1_stands_13 : decode cX1_stands 13 = .ok (.if_icmp .eq 5, 3) := by decide +kernel
theorem dX1_stands_16 : decode cX1_stands 16 = .ok (.iconst 0, 1) := by decide +kernel
theorem dX1_stands_17 : decode cX1_stands 17 = .ok (.ireturn, 1) := by decide +kernel
theorem dX1_stands_18 : decode cX1_stands 18 = .ok (.iconst 0, 1) := by decide +kernel
theorem dX1_stands_19 : decode cX1_stands 19 = .ok (.istore_n 2, 1) := by decide +kernel
theorem dX1_stands_20 : decode cX1_stands 20 = .ok (.iload_n 2, 1) := by decide +kernel
theorem dX1_stands_21 : decode cX1_stands 21 = .ok (.aload_n 1, 1) := by decide +kernel
theorem dX1_stands_22 : decode cX1_stands 22 = .ok (.invokevirtual 23, 3) := by decide +kernel
theorem dX1_stands_25 : decode cX1_stands 25 = .ok (.if_icmp .ge 29, 3) := by decide +kernel
theorem dX1_stands_28 : decode cX1_stands 28 = .ok (.aload_n 1, 1) := by decide +kernel
theorem dX1_stands_29 : decode cX1_stands 29 = .ok (.iload_n 2, 1) := by decide +kernel
theorem dX1_stands_30 : decode cX1_stands 30 = .ok (.invokevirtual 29, 3) := by decide +kernel
theorem dX1_stands_33 : decode cX1_stands 33 = .ok (.aload_n 0, 1) := by decide +kernel
theorem dX1_stands_34 : decode cX1_stands 34 = .ok (.aload_n 0, 1) := by decide +kernel
theorem dX1_stands_35 : decode cX1_stands 35 = .ok (.getfield 93, 3) := by decide +kernel
theorem dX1_stands_38 : decode cX1_stands 38 = .ok (.iload_n 2, 1) := by decide +kernel
theorem dX1_stands_39 : decode cX1_stands 39 = .ok (.iadd, 1) := by decide +kernel
theorem dX1_stands_40 : decode cX1_stands 40 = .ok (.invokevirtual 96, 3) := by decide +kernel
theorem dX1_stands_43 : decode cX1_stands 43 = .ok (.if_icmp .eq 5, 3) := by decide +kernel
theorem dX1_stands_46 : decode cX1_stands 46 = .ok (.iconst 0, 1) := by decide +kernel
theorem dX1_stands_47 : decode cX1_stands 47 = .ok (.ireturn, 1) := by decide +kernel
theorem dX1_stands_48 : decode cX1_stands 48 = .ok (.iinc 2 1, 3) := by decide +kernel
theorem dX1_stands_51 : decode cX1_stands 51 = .ok (.goto (-31), 3) := by decide +kernel
theorem dX1_stands_54 : decode cX1_stands 54 = .ok (.iconst 1, 1) := by decide +kernel
theorem dX1_stands_55 : decode cX1_stands 55 = .ok (.ireturn, 1) := by decide +kernel
theorem dX1_byteAt_0 : decode cX1_byteAt 0 = .ok (.iload_n 1, 1) := by decide +kernel
theorem dX1_byteAt_1 : decode cX1_byteAt 1 = .ok (.ifCond .lt 27, 3) := by decide +kernel
theorem dX1_byteAt_4 : decode cX1_byteAt 4 = .ok (.iload_n 1, 1) := by decide +kernel
theorem dX1_byteAt_5 : decode cX1_byteAt 5 = .ok (.aload_n 0, 1) := by decide +kernel
theorem dX1_byteAt_6 : decode cX1_byteAt 6 = .ok (.getfield 19, 3) := by decide +kernel
theorem dX1_byteAt_9 : decode cX1_byteAt 9 = .ok (.if_icmp .ge 19, 3) := by decide +kernel
theorem dX1_byteAt_12 : decode cX1_byteAt 12 = .ok (.iload_n 1, 1) := by decide +kernel
theorem dX1_byteAt_13 : decode cX1_byteAt 13 = .ok (.sipush 160, 3) := by decide +kernel
theorem dX1_byteAt_16 : decode cX1_byteAt 16 = .ok (.if_icmp .ge 12, 3) := by decide +kernel
theorem dX1_byteAt_19 : decode cX1_byteAt 19 = .ok (.aload_n 0, 1) := by decide +kernel
theorem dX1_byteAt_20 : decode cX1_byteAt 20 = .ok (.getfield 11, 3) := by decide +kernel
theorem dX1_byteAt_23 : decode cX1_byteAt 23 = .ok (.iload_n 1, 1) := by decide +kernel
theorem dX1_byteAt_24 : decode cX1_byteAt 24 = .ok (.iaload, 1) := by decide +kernel
theorem dX1_byteAt_25 : decode cX1_byteAt 25 = .ok (.goto 4, 3) := by decide +kernel
theorem dX1_byteAt_28 : decode cX1_byteAt 28 = .ok (.iconst (-1), 1) := by decide +kernel
theorem dX1_byteAt_29 : decode cX1_byteAt 29 = .ok (.ireturn, 1) := by decide +kernel
theorem dX1_word_0 : decode cX1_word 0 = .ok (.iload_n 0, 1) := by decide +kernel
theorem dX1_word_1 : decode cX1_word 1 = .ok (.tableswitch 92 0 10 #[59, 62, 65, 68, 71, 74, 77, 80, 83, 86, 89], 59) := by decide +kernel
theorem dX1_word_60 : decode cX1_word 60 = .ok (.ldc 126, 2) := by decide +kernel
theorem dX1_word_62 : decode cX1_word 62 = .ok (.areturn, 1) := by decide +kernel
theorem dX1_word_63 : decode cX1_word 63 = .ok (.ldc 128, 2) := by decide +kernel
theorem dX1_word_65 : decode cX1_word 65 = .ok (.areturn, 1) := by decide +kernel
theorem dX1_word_66 : decode cX1_word 66 = .ok (.ldc 130, 2) := by decide +kernel
theorem dX1_word_68 : decode cX1_word 68 = .ok (.areturn, 1) := by decide +kernel
theorem dX1_word_69 : decode cX1_word 69 = .ok (.ldc 131, 2) := by decide +kernel
theorem dX1_word_71 : decode cX1_word 71 = .ok (.areturn, 1) := by decide +kernel
theorem dX1_word_72 : decode cX1_word 72 = .ok (.ldc 133, 2) := by decide +kernel
theorem dX1_word_74 : decode cX1_word 74 = .ok (.areturn, 1) := by decide +kernel
theorem dX1_word_75 : decode cX1_word 75 = .ok (.ldc 135, 2) := by decide +kernel
theorem dX1_word_77 : decode cX1_word 77 = .ok (.areturn, 1) := by decide +kernel
theorem dX1_word_78 : decode cX1_word 78 = .ok (.ldc 137, 2) := by decide +kernel
theorem dX1_word_80 : decode cX1_word 80 = .ok (.areturn, 1) := by decide +kernel
theorem dX1_word_81 : decode cX1_word 81 = .ok (.ldc 139, 2) := by decide +kernel
theorem dX1_word_83 : decode cX1_word 83 = .ok (.areturn, 1) := by decide +kernel
theorem dX1_word_84 : decode cX1_word 84 = .ok (.ldc 141, 2) := by decide +kernel
theorem dX1_word_86 : decode cX1_word 86 = .ok (.areturn, 1) := by decide +kernel
theorem dX1_word_87 : decode cX1_word 87 = .ok (.ldc 143, 2) := by decide +kernel
theorem dX1_word_89 : decode cX1_word 89 = .ok (.areturn, 1) := by decide +kernel
theorem dX1_word_90 : decode cX1_word 90 = .ok (.ldc 145, 2) := by decide +kernel
theorem dX1_word_92 : decode cX1_word 92 = .ok (.areturn, 1) := by decide +kernel
theorem dX1_word_93 : decode cX1_word 93 = .ok (.ldc 147, 2) := by decide +kernel
theorem dX1_word_95 : decode cX1_word 95 = .ok (.areturn, 1) := by decide +kernel
theorem dX1_isBlank_0 : decode cX1_isBlank 0 = .ok (.iload_n 0, 1) := by decide +kernel
theorem dX1_isBlank_1 : decode cX1_isBlank 1 = .ok (.bipush 32, 2) := by decide +kernel
theorem dX1_isBlank_3 : decode cX1_isBlank 3 = .ok (.if_icmp .eq 9, 3) := by decide +kernel
theorem dX1_isBlank_6 : decode cX1_isBlank 6 = .ok (.iload_n 0, 1) := by decide +kernel
theorem dX1_isBlank_7 : decode cX1_isBlank 7 = .ok (.bipush 10, 2) := by decide +kernel
theorem dX1_isBlank_9 : decode cX1_isBlank 9 = .ok (.if_icmp .ne 7, 3) := by decide +kernel
theorem dX1_isBlank_12 : decode cX1_isBlank 12 = .ok (.iconst 1, 1) := by decide +kernel
theorem dX1_isBlank_13 : decode cX1_isBlank 13 = .ok (.goto 4, 3) := by decide +kernel
theorem dX1_isBlank_16 : decode cX1_isBlank 16 = .ok (.iconst 0, 1) := by decide +kernel
theorem dX1_isBlank_17 : decode cX1_isBlank 17 = .ok (.ireturn, 1) := by decide +kernel
theorem dX1_isWordByte_0 : decode cX1_isWordByte 0 = .ok (.iload_n 0, 1) := by decide +kernel
theorem dX1_isWordByte_1 : decode cX1_isWordByte 1 = .ok (.bipush 97, 2) := by decide +kernel
theorem dX1_isWordByte_3 : decode cX1_isWordByte 3 = .ok (.if_icmp .lt 13, 3) := by decide +kernel
theorem dX1_isWordByte_6 : decode cX1_isWordByte 6 = .ok (.iload_n 0, 1) := by decide +kernel
theorem dX1_isWordByte_7 : decode cX1_isWordByte 7 = .ok (.bipush 122, 2) := by decide +kernel
theorem dX1_isWordByte_9 : decode cX1_isWordByte 9 = .ok (.if_icmp .gt 7, 3) := by decide +kernel
theorem dX1_isWordByte_12 : decode cX1_isWordByte 12 = .ok (.iconst 1, 1) := by decide +kernel
theorem dX1_isWordByte_13 : decode cX1_isWordByte 13 = .ok (.goto 4, 3) := by decide +kernel
theorem dX1_isWordByte_16 : decode cX1_isWordByte 16 = .ok (.iconst 0, 1) := by decide +kernel
theorem dX1_isWordByte_17 : decode cX1_isWordByte 17 = .ok (.ireturn, 1) := by decide +kernel
theorem dX1_isDigit_0 : decode cX1_isDigit 0 = .ok (.iload_n 0, 1) := by decide +kernel
theorem dX1_isDigit_1 : decode cX1_isDigit 1 = .ok (.bipush 48, 2) := by decide +kernel
theorem dX1_isDigit_3 : decode cX1_isDigit 3 = .ok (.if_icmp .lt 13, 3) := by decide +kernel
theorem dX1_isDigit_6 : decode cX1_isDigit 6 = .ok (.iload_n 0, 1) := by decide +kernel
theorem dX1_isDigit_7 : decode cX1_isDigit 7 = .ok (.bipush 57, 2) := by decide +kernel
theorem dX1_isDigit_9 : decode cX1_isDigit 9 = .ok (.if_icmp .gt 7, 3) := by decide +kernel
theorem dX1_isDigit_12 : decode cX1_isDigit 12 = .ok (.iconst 1, 1) := by decide +kernel
theorem dX1_isDigit_13 : decode cX1_isDigit 13 = .ok (.goto 4, 3) := by decide +kernel
theorem dX1_isDigit_16 : decode cX1_isDigit 16 = .ok (.iconst 0, 1) := by decide +kernel
theorem dX1_isDigit_17 : decode cX1_isDigit 17 = .ok (.ireturn, 1) := by decide +kernel
theorem dX1_isSign_0 : decode cX1_isSign 0 = .ok (.iload_n 0, 1) := by decide +kernel
theorem dX1_isSign_1 : decode cX1_isSign 1 = .ok (.bipush 40, 2) := by decide +kernel
theorem dX1_isSign_3 : decode cX1_isSign 3 = .ok (.if_icmp .eq 45, 3) := by decide +kernel
theorem dX1_isSign_6 : decode cX1_isSign 6 = .ok (.iload_n 0, 1) := by decide +kernel
theorem dX1_isSign_7 : decode cX1_isSign 7 = .ok (.bipush 41, 2) := by decide +kernel
theorem dX1_isSign_9 : decode cX1_isSign 9 = .ok (.if_icmp .eq 39, 3) := by decide +kernel
theorem dX1_isSign_12 : decode cX1_isSign 12 = .ok (.iload_n 0, 1) := by decide +kernel
theorem dX1_isSign_13 : decode cX1_isSign 13 = .ok (.bipush 59, 2) := by decide +kernel
theorem dX1_isSign_15 : decode cX1_isSign 15 = .ok (.if_icmp .eq 33, 3) := by decide +kernel
theorem dX1_isSign_18 : decode cX1_isSign 18 = .ok (.iload_n 0, 1) := by decide +kernel
theorem dX1_isSign_19 : decode cX1_isSign 19 = .ok (.bipush 43, 2) := by decide +kernel
theorem dX1_isSign_21 : decode cX1_isSign 21 = .ok (.if_icmp .eq 27, 3) := by decide +kernel
theorem dX1_isSign_24 : decode cX1_isSign 24 = .ok (.iload_n 0, 1) := by decide +kernel
theorem dX1_isSign_25 : decode cX1_isSign 25 = .ok (.bipush 45, 2) := by decide +kernel
theorem dX1_isSign_27 : decode cX1_isSign 27 = .ok (.if_icmp .eq 21, 3) := by decide +kernel
theorem dX1_isSign_30 : decode cX1_isSign 30 = .ok (.iload_n 0, 1) := by decide +kernel
theorem dX1_isSign_31 : decode cX1_isSign 31 = .ok (.bipush 42, 2) := by decide +kernel
theorem dX1_isSign_33 : decode cX1_isSign 33 = .ok (.if_icmp .eq 15, 3) := by decide +kernel
theorem dX1_isSign_36 : decode cX1_isSign 36 = .ok (.iload_n 0, 1) := by decide +kernel
theorem dX1_isSign_37 : decode cX1_isSign 37 = .ok (.bipush 60, 2) := by decide +kernel
theorem dX1_isSign_39 : decode cX1_isSign 39 = .ok (.if_icmp .eq 9, 3) := by decide +kernel
theorem dX1_isSign_42 : decode cX1_isSign 42 = .ok (.iload_n 0, 1) := by decide +kernel
theorem dX1_isSign_43 : decode cX1_isSign 43 = .ok (.bipush 61, 2) := by decide +kernel
theorem dX1_isSign_45 : decode cX1_isSign 45 = .ok (.if_icmp .ne 7, 3) := by decide +kernel
theorem dX1_isSign_48 : decode cX1_isSign 48 = .ok (.iconst 1, 1) := by decide +kernel
theorem dX1_isSign_49 : decode cX1_isSign 49 = .ok (.goto 4, 3) := by decide +kernel
theorem dX1_isSign_52 : decode cX1_isSign 52 = .ok (.iconst 0, 1) := by decide +kernel
theorem dX1_isSign_53 : decode cX1_isSign 53 = .ok (.ireturn, 1) := by decide +kernel
theorem dX2_init_0 : decode cX2_init 0 = .ok (.aload_n 0, 1) := by decide +kernel
theorem dX2_init_1 : decode cX2_init 1 = .ok (.invokespecial 1, 3) := by decide +kernel
theorem dX2_init_4 : decode cX2_init 4 = .ok (.aload_n 0, 1) := by decide +kernel
theorem dX2_init_5 : decode cX2_init 5 = .ok (.sipush 960, 3) := by decide +kernel
theorem dX2_init_8 : decode cX2_init 8 = .ok (.newarray .int, 2) := by decide +kernel
theorem dX2_init_10 : decode cX2_init 10 = .ok (.putfield 11, 3) := by decide +kernel
theorem dX2_init_13 : decode cX2_init 13 = .ok (.aload_n 0, 1) := by decide +kernel
theorem dX2_init_14 : decode cX2_init 14 = .ok (.bipush 19, 2) := by decide +kernel
theorem dX2_init_16 : decode cX2_init 16 = .ok (.newarray .int, 2) := by decide +kernel
theorem dX2_init_18 : decode cX2_init 18 = .ok (.putfield 15, 3) := by decide +kernel
theorem dX2_init_21 : decode cX2_init 21 = .ok (.aload_n 0, 1) := by decide +kernel
theorem dX2_init_22 : decode cX2_init 22 = .ok (.bipush 64, 2) := by decide +kernel
theorem dX2_init_24 : decode cX2_init 24 = .ok (.newarray .int, 2) := by decide +kernel
theorem dX2_init_26 : decode cX2_init 26 = .ok (.putfield 18, 3) := by decide +kernel
theorem dX2_init_29 : decode cX2_init 29 = .ok (.return_, 1) := by decide +kernel
theorem dX2_hasRoom_0 : decode cX2_hasRoom 0 = .ok (.aload_n 0, 1) := by decide +kernel
theorem dX2_hasRoom_1 : decode cX2_hasRoom 1 = .ok (.getfield 21, 3) := by decide +kernel
theorem dX2_hasRoom_4 : decode cX2_hasRoom 4 = .ok (.bipush 6, 2) := by decide +kernel
theorem dX2_hasRoom_6 : decode cX2_hasRoom 6 = .ok (.if_icmp .ge 7, 3) := by decide +kernel
theorem dX2_hasRoom_9 : decode cX2_hasRoom 9 = .ok (.iconst 1, 1) := by decide +kernel
theorem dX2_hasRoom_10 : decode cX2_hasRoom 10 = .ok (.goto 4, 3) := by decide +kernel
theorem dX2_hasRoom_13 : decode cX2_hasRoom 13 = .ok (.iconst 0, 1) := by decide +kernel
theorem dX2_hasRoom_14 : decode cX2_hasRoom 14 = .ok (.ireturn, 1) := by decide +kernel
theorem dX2_isText_0 : decode cX2_isText 0 = .ok (.iload_n 1, 1) := by decide +kernel
theorem dX2_isText_1 : decode cX2_isText 1 = .ok (.ifCond .lt 21, 3) := by decide +kernel
theorem dX2_isText_4 : decode cX2_isText 4 = .ok (.iload_n 1, 1) := by decide +kernel
theorem dX2_isText_5 : decode cX2_isText 5 = .ok (.aload_n 0, 1) := by decide +kernel
theorem dX2_isText_6 : decode cX2_isText 6 = .ok (.getfield 21, 3) := by decide +kernel
theorem dX2_isText_9 : decode cX2_isText 9 = .ok (.if_icmp .ge 13, 3) := by decide +kernel
theorem dX2_isText_12 : decode cX2_isText 12 = .ok (.iload_n 1, 1) := by decide +kernel
theorem dX2_isText_13 : decode cX2_isText 13 = .ok (.bipush 6, 2) := by decide +kernel
theorem dX2_isText_15 : decode cX2_isText 15 = .ok (.if_icmp .ge 7, 3) := by decide +kernel
theorem dX2_isText_18 : decode cX2_isText 18 = .ok (.iconst 1, 1) := by decide +kernel
theorem dX2_isText_19 : decode cX2_isText 19 = .ok (.goto 4, 3) := by decide +kernel
theorem dX2_isText_22 : decode cX2_isText 22 = .ok (.iconst 0, 1) := by decide +kernel
theorem dX2_isText_23 : decode cX2_isText 23 = .ok (.ireturn, 1) := by decide +kernel
theorem dX2_begin_0 : decode cX2_begin 0 = .ok (.aload_n 0, 1) := by decide +kernel
theorem dX2_begin_1 : decode cX2_begin 1 = .ok (.aload_n 0, 1) := by decide +kernel
theorem dX2_begin_2 : decode cX2_begin 2 = .ok (.invokevirtual 25, 3) := by decide +kernel
theorem dX2_begin_5 : decode cX2_begin 5 = .ok (.ifCond .eq 17, 3) := by decide +kernel
theorem dX2_begin_8 : decode cX2_begin 8 = .ok (.aload_n 0, 1) := by decide +kernel
theorem dX2_begin_9 : decode cX2_begin 9 = .ok (.getfield 15, 3) := by decide +kernel
theorem dX2_begin_12 : decode cX2_begin 12 = .ok (.aload_n 0, 1) := by decide +kernel
theorem dX2_begin_13 : decode cX2_begin 13 = .ok (.getfield 21, 3) := by decide +kernel
theorem dX2_begin_16 : decode cX2_begin 16 = .ok (.iconst 3, 1) := by decide +kernel
theorem dX2_begin_17 : decode cX2_begin 17 = .ok (.imul, 1) := by decide +kernel
theorem dX2_begin_18 : decode cX2_begin 18 = .ok (.iaload, 1) := by decide +kernel
theorem dX2_begin_19 : decode cX2_begin 19 = .ok (.goto 8, 3) := by decide +kernel
theorem dX2_begin_22 : decode cX2_begin 22 = .ok (.aload_n 0, 1) := by decide +kernel
theorem dX2_begin_23 : decode cX2_begin 23 = .ok (.getfield 11, 3) := by decide +kernel
theorem dX2_begin_26 : decode cX2_begin 26 = .ok (.arraylength, 1) := by decide +kernel
theorem dX2_begin_27 : decode cX2_begin 27 = .ok (.putfield 29, 3) := by decide +kernel
theorem dX2_begin_30 : decode cX2_begin 30 = .ok (.return_, 1) := by decide +kernel
theorem dX2_add_0 : decode cX2_add 0 = .ok (.aload_n 0, 1) := by decide +kernel
theorem dX2_add_1 : decode cX2_add 1 = .ok (.getfield 29, 3) := by decide +kernel
theorem dX2_add_4 : decode cX2_add 4 = .ok (.ifCond .lt 35, 3) := by decide +kernel
theorem dX2_add_7 : decode cX2_add 7 = .ok (.aload_n 0, 1) := by decide +kernel
theorem dX2_add_8 : decode cX2_add 8 = .ok (.getfield 29, 3) := by decide +kernel
theorem dX2_add_11 : decode cX2_add 11 = .ok (.aload_n 0, 1) := by decide +kernel
theorem dX2_add_12 : decode cX2_add 12 = .ok (.getfield 11, 3) := by decide +kernel
theorem dX2_add_15 : decode cX2_add 15 = .ok (.arraylength, 1) := by decide +kernel
theorem dX2_add_16 : decode cX2_add 16 = .ok (.if_icmp .ge 23, 3) := by decide +kernel
theorem dX2_add_19 : decode cX2_add 19 = .ok (.aload_n 0, 1) := by decide +kernel
theorem dX2_add_20 : decode cX2_add 20 = .ok (.getfield 11, 3) := by decide +kernel
theorem dX2_add_23 : decode cX2_add 23 = .ok (.aload_n 0, 1) := by decide +kernel
theorem dX2_add_24 : decode cX2_add 24 = .ok (.getfield 29, 3) := by decide +kernel
theorem dX2_add_27 : decode cX2_add 27 = .ok (.iload_n 1, 1) := by decide +kernel
theorem dX2_add_28 : decode cX2_add 28 = .ok (.iastore, 1) := by decide +kernel
theorem dX2_add_29 : decode cX2_add 29 = .ok (.aload_n 0, 1) := by decide +kernel
theorem dX2_add_30 : decode cX2_add 30 = .ok (.dup, 1) := by decide +kernel
theorem dX2_add_31 : decode cX2_add 31 = .ok (.getfield 29, 3) := by decide +kernel
theorem dX2_add_34 : decode cX2_add 34 = .ok (.iconst 1, 1) := by decide +kernel
theorem dX2_add_35 : decode cX2_add 35 = .ok (.iadd, 1) := by decide +kernel
theorem dX2_add_36 : decode cX2_add 36 = .ok (.putfield 29, 3) := by decide +kernel
theorem dX2_add_39 : decode cX2_add 39 = .ok (.return_, 1) := by decide +kernel
theorem dX2_endPart_0 : decode cX2_endPart 0 = .ok (.aload_n 0, 1) := by decide +kernel
theorem dX2_endPart_1 : decode cX2_endPart 1 = .ok (.getfield 21, 3) := by decide +kernel
theorem dX2_endPart_4 : decode cX2_endPart 4 = .ok (.iconst 3, 1) := by decide +kernel
theorem dX2_endPart_5 : decode cX2_endPart 5 = .ok (.imul, 1) := by decide +kernel
theorem dX2_endPart_6 : decode cX2_endPart 6 = .ok (.iload_n 1, 1) := by decide +kernel
theorem dX2_endPart_7 : decode cX2_endPart 7 = .ok (.iadd, 1) := by decide +kernel
theorem dX2_endPart_8 : decode cX2_endPart 8 = .ok (.iconst 1, 1) := by decide +kernel
theorem dX2_endPart_9 : decode cX2_endPart 9 = .ok (.iadd, 1) := by decide +kernel
theorem dX2_endPart_10 : decode cX2_endPart 10 = .ok (.istore_n 2, 1) := by decide +kernel
theorem dX2_endPart_11 : decode cX2_endPart 11 = .ok (.iload_n 2, 1) := by decide +kernel
theorem dX2_endPart_12 : decode cX2_endPart 12 = .ok (.ifCond .lt 22, 3) := by decide +kernel
theorem dX2_endPart_15 : decode cX2_endPart 15 = .ok (.iload_n 2, 1) := by decide +kernel
theorem dX2_endPart_16 : decode cX2_endPart 16 = .ok (.aload_n 0, 1) := by decide +kernel
theorem dX2_endPart_17 : decode cX2_endPart 17 = .ok (.getfield 15, 3) := by decide +kernel
theorem dX2_endPart_20 : decode cX2_endPart 20 = .ok (.arraylength, 1) := by decide +kernel
theorem dX2_endPart_21 : decode cX2_endPart 21 = .ok (.if_icmp .ge 13, 3) := by decide +kernel
theorem dX2_endPart_24 : decode cX2_endPart 24 = .ok (.aload_n 0, 1) := by decide +kernel
theorem dX2_endPart_25 : decode cX2_endPart 25 = .ok (.getfield 15, 3) := by decide +kernel
theorem dX2_endPart_28 : decode cX2_endPart 28 = .ok (.iload_n 2, 1) := by decide +kernel
theorem dX2_endPart_29 : decode cX2_endPart 29 = .ok (.aload_n 0, 1) := by decide +kernel
theorem dX2_endPart_30 : decode cX2_endPart 30 = .ok (.getfield 29, 3) := by decide +kernel
theorem dX2_endPart_33 : decode cX2_endPart 33 = .ok (.iastore, 1) := by decide +kernel
theorem dX2_endPart_34 : decode cX2_endPart 34 = .ok (.return_, 1) := by decide +kernel
theorem dX2_keep_0 : decode cX2_keep 0 = .ok (.aload_n 0, 1) := by decide +kernel
theorem dX2_keep_1 : decode cX2_keep 1 = .ok (.invokevirtual 25, 3) := by decide +kernel
theorem dX2_keep_4 : decode cX2_keep 4 = .ok (.ifCond .eq 13, 3) := by decide +kernel
theorem dX2_keep_7 : decode cX2_keep 7 = .ok (.aload_n 0, 1) := by decide +kernel
theorem dX2_keep_8 : decode cX2_keep 8 = .ok (.dup, 1) := by decide +kernel
theorem dX2_keep_9 : decode cX2_keep 9 = .ok (.getfield 21, 3) := by decide +kernel
theorem dX2_keep_12 : decode cX2_keep 12 = .ok (.iconst 1, 1) := by decide +kernel
theorem dX2_keep_13 : decode cX2_keep 13 = .ok (.iadd, 1) := by decide +kernel
theorem dX2_keep_14 : decode cX2_keep 14 = .ok (.putfield 21, 3) := by decide +kernel
theorem dX2_keep_17 : decode cX2_keep 17 = .ok (.return_, 1) := by decide +kernel
theorem dX2_value_0 : decode cX2_value 0 = .ok (.iload_n 1, 1) := by decide +kernel
theorem dX2_value_1 : decode cX2_value 1 = .ok (.iconst 3, 1) := by decide +kernel
theorem dX2_value_2 : decode cX2_value 2 = .ok (.imul, 1) := by decide +kernel
theorem dX2_value_3 : decode cX2_value 3 = .ok (.iload_n 2, 1) := by decide +kernel
theorem dX2_value_4 : decode cX2_value 4 = .ok (.iadd, 1) := by decide +kernel
theorem dX2_value_5 : decode cX2_value 5 = .ok (.istore_n 3, 1) := by decide +kernel
theorem dX2_value_6 : decode cX2_value 6 = .ok (.aload_n 0, 1) := by decide +kernel
theorem dX2_value_7 : decode cX2_value 7 = .ok (.iload_n 1, 1) := by decide +kernel
theorem dX2_value_8 : decode cX2_value 8 = .ok (.invokevirtual 32, 3) := by decide +kernel
theorem dX2_value_11 : decode cX2_value 11 = .ok (.ifCond .eq 18, 3) := by decide +kernel
theorem dX2_value_14 : decode cX2_value 14 = .ok (.iload_n 3, 1) := by decide +kernel
theorem dX2_value_15 : decode cX2_value 15 = .ok (.ifCond .lt 14, 3) := by decide +kernel
theorem dX2_value_18 : decode cX2_value 18 = .ok (.iload_n 3, 1) := by decide +kernel
theorem dX2_value_19 : decode cX2_value 19 = .ok (.iconst 1, 1) := by decide +kernel
theorem dX2_value_20 : decode cX2_value 20 = .ok (.iadd, 1) := by decide +kernel
theorem dX2_value_21 : decode cX2_value 21 = .ok (.aload_n 0, 1) := by decide +kernel
theorem dX2_value_22 : decode cX2_value 22 = .ok (.getfield 15, 3) := by decide +kernel
theorem dX2_value_25 : decode cX2_value 25 = .ok (.arraylength, 1) := by decide +kernel
theorem dX2_value_26 : decode cX2_value 26 = .ok (.if_icmp .lt 5, 3) := by decide +kernel
theorem dX2_value_29 : decode cX2_value 29 = .ok (.iconst 0, 1) := by decide +kernel
theorem dX2_value_30 : decode cX2_value 30 = .ok (.ireturn, 1) := by decide +kernel
theorem dX2_value_31 : decode cX2_value 31 = .ok (.iconst 0, 1) := by decide +kernel
theorem dX2_value_32 : decode cX2_value 32 = .ok (.istore 4, 2) := by decide +kernel
theorem dX2_value_34 : decode cX2_value 34 = .ok (.iconst 0, 1) := by decide +kernel
theorem dX2_value_35 : decode cX2_value 35 = .ok (.aload_n 0, 1) := by decide +kernel
theorem dX2_value_36 : decode cX2_value 36 = .ok (.getfield 15, 3) := by decide +kernel
theorem dX2_value_39 : decode cX2_value 39 = .ok (.iload_n 3, 1) := by decide +kernel
theorem dX2_value_40 : decode cX2_value 40 = .ok (.iaload, 1) := by decide +kernel
theorem dX2_value_41 : decode cX2_value 41 = .ok (.invokestatic 36, 3) := by decide +kernel
theorem dX2_value_44 : decode cX2_value 44 = .ok (.istore 5, 2) := by decide +kernel
theorem dX2_value_46 : decode cX2_value 46 = .ok (.iload 5, 2) := by decide +kernel
theorem dX2_value_48 : decode cX2_value 48 = .ok (.aload_n 0, 1) := by decide +kernel
theorem dX2_value_49 : decode cX2_value 49 = .ok (.getfield 15, 3) := by decide +kernel
theorem dX2_value_52 : decode cX2_value 52 = .ok (.iload_n 3, 1) := by decide +kernel
theorem dX2_value_53 : decode cX2_value 53 = .ok (.iconst 1, 1) := by decide +kernel
theorem dX2_value_54 : decode cX2_value 54 = .ok (.iadd, 1) := by decide +kernel
theorem dX2_value_55 : decode cX2_value 55 = .ok (.iaload, 1) := by decide +kernel
theorem dX2_value_56 : decode cX2_value 56 = .ok (.if_icmp .ge 163, 3) := by decide +kernel
theorem dX2_value_59 : decode cX2_value 59 = .ok (.iload 5, 2) := by decide +kernel
theorem dX2_value_61 : decode cX2_value 61 = .ok (.aload_n 0, 1) := by decide +kernel
theorem dX2_value_62 : decode cX2_value 62 = .ok (.getfield 11, 3) := by decide +kernel
theorem dX2_value_65 : decode cX2_value 65 = .ok (.arraylength, 1) := by decide +kernel
theorem dX2_value_66 : decode cX2_value 66 = .ok (.if_icmp .ge 153, 3) := by decide +kernel
theorem dX2_value_69 : decode cX2_value 69 = .ok (.aload_n 0, 1) := by decide +kernel
theorem dX2_value_70 : decode cX2_value 70 = .ok (.getfield 11, 3) := by decide +kernel
theorem dX2_value_73 : decode cX2_value 73 = .ok (.iload 5, 2) := by decide +kernel
theorem dX2_value_75 : decode cX2_value 75 = .ok (.iaload, 1) := by decide +kernel
theorem dX2_value_76 : decode cX2_value 76 = .ok (.istore 6, 2) := by decide +kernel
theorem dX2_value_78 : decode cX2_value 78 = .ok (.iload 6, 2) := by decide +kernel
theorem dX2_value_80 : decode cX2_value 80 = .ok (.bipush (-11), 2) := by decide +kernel
theorem dX2_value_82 : decode cX2_value 82 = .ok (.if_icmp .le 7, 3) := by decide +kernel
theorem dX2_value_85 : decode cX2_value 85 = .ok (.iconst 0, 1) := by decide +kernel
theorem dX2_value_86 : decode cX2_value 86 = .ok (.goto 15, 3) := by decide +kernel
theorem dX2_value_89 : decode cX2_value 89 = .ok (.iload 6, 2) := by decide +kernel
theorem dX2_value_91 : decode cX2_value 91 = .ok (.bipush (-21), 2) := by decide +kernel
theorem dX2_value_93 : decode cX2_value 93 = .ok (.if_icmp .le 7, 3) := by decide +kernel
theorem dX2_value_96 : decode cX2_value 96 = .ok (.iconst 2, 1) := by decide +kernel
theorem dX2_value_97 : decode cX2_value 97 = .ok (.goto 4, 3) := by decide +kernel
theorem dX2_value_100 : decode cX2_value 100 = .ok (.iconst 1, 1) := by decide +kernel
theorem dX2_value_101 : decode cX2_value 101 = .ok (.istore 7, 2) := by decide +kernel
theorem dX2_value_103 : decode cX2_value 103 = .ok (.iload 4, 2) := by decide +kernel
theorem dX2_value_105 : decode cX2_value 105 = .ok (.iload 7, 2) := by decide +kernel
theorem dX2_value_107 : decode cX2_value 107 = .ok (.if_icmp .lt 13, 3) := by decide +kernel
theorem dX2_value_110 : decode cX2_value 110 = .ok (.iload 4, 2) := by decide +kernel
theorem dX2_value_112 : decode cX2_value 112 = .ok (.aload_n 0, 1) := by decide +kernel
theorem dX2_value_113 : decode cX2_value 113 = .ok (.getfield 18, 3) := by decide +kernel
theorem dX2_value_116 : decode cX2_value 116 = .ok (.arraylength, 1) := by decide +kernel
theorem dX2_value_117 : decode cX2_value 117 = .ok (.if_icmp .lt 5, 3) := by decide +kernel
theorem dX2_value_120 : decode cX2_value 120 = .ok (.iconst 0, 1) := by decide +kernel
theorem dX2_value_121 : decode cX2_value 121 = .ok (.ireturn, 1) := by decide +kernel
theorem dX2_value_122 : decode cX2_value 122 = .ok (.iload 7, 2) := by decide +kernel
theorem dX2_value_124 : decode cX2_value 124 = .ok (.ifCond .le 15, 3) := by decide +kernel
theorem dX2_value_127 : decode cX2_value 127 = .ok (.aload_n 0, 1) := by decide +kernel
theorem dX2_value_128 : decode cX2_value 128 = .ok (.getfield 18, 3) := by decide +kernel
theorem dX2_value_131 : decode cX2_value 131 = .ok (.iload 4, 2) := by decide +kernel
theorem dX2_value_133 : decode cX2_value 133 = .ok (.iconst 1, 1) := by decide +kernel
theorem dX2_value_134 : decode cX2_value 134 = .ok (.isub, 1) := by decide +kernel
theorem dX2_value_135 : decode cX2_value 135 = .ok (.iaload, 1) := by decide +kernel
theorem dX2_value_136 : decode cX2_value 136 = .ok (.goto 4, 3) := by decide +kernel
theorem dX2_value_139 : decode cX2_value 139 = .ok (.iconst 0, 1) := by decide +kernel
theorem dX2_value_140 : decode cX2_value 140 = .ok (.istore 8, 2) := by decide +kernel
theorem dX2_value_142 : decode cX2_value 142 = .ok (.iload 7, 2) := by decide +kernel
theorem dX2_value_144 : decode cX2_value 144 = .ok (.iconst 1, 1) := by decide +kernel
theorem dX2_value_145 : decode cX2_value 145 = .ok (.if_icmp .le 15, 3) := by decide +kernel
theorem dX2_value_148 : decode cX2_value 148 = .ok (.aload_n 0, 1) := by decide +kernel
theorem dX2_value_149 : decode cX2_value 149 = .ok (.getfield 18, 3) := by decide +kernel
theorem dX2_value_152 : decode cX2_value 152 = .ok (.iload 4, 2) := by decide +kernel
theorem dX2_value_154 : decode cX2_value 154 = .ok (.iconst 2, 1) := by decide +kernel
theorem dX2_value_155 : decode cX2_value 155 = .ok (.isub, 1) := by decide +kernel
theorem dX2_value_156 : decode cX2_value 156 = .ok (.iaload, 1) := by decide +kernel
theorem dX2_value_157 : decode cX2_value 157 = .ok (.goto 4, 3) := by decide +kernel
theorem dX2_value_160 : decode cX2_value 160 = .ok (.iconst 0, 1) := by decide +kernel
theorem dX2_value_161 : decode cX2_value 161 = .ok (.istore 9, 2) := by decide +kernel
theorem dX2_value_163 : decode cX2_value 163 = .ok (.iload 4, 2) := by decide +kernel
theorem dX2_value_165 : decode cX2_value 165 = .ok (.iload 7, 2) := by decide +kernel
theorem dX2_value_167 : decode cX2_value 167 = .ok (.isub, 1) := by decide +kernel
theorem dX2_value_168 : decode cX2_value 168 = .ok (.istore 4, 2) := by decide +kernel
theorem dX2_value_170 : decode cX2_value 170 = .ok (.aload_n 0, 1) := by decide +kernel
theorem dX2_value_171 : decode cX2_value 171 = .ok (.getfield 18, 3) := by decide +kernel
theorem dX2_value_174 : decode cX2_value 174 = .ok (.iload 4, 2) := by decide +kernel
theorem dX2_value_176 : decode cX2_value 176 = .ok (.iload 6, 2) := by decide +kernel
theorem dX2_value_178 : decode cX2_value 178 = .ok (.ifCond .lt 8, 3) := by decide +kernel
theorem dX2_value_181 : decode cX2_value 181 = .ok (.iload 6, 2) := by decide +kernel
theorem dX2_value_183 : decode cX2_value 183 = .ok (.goto 26, 3) := by decide +kernel
theorem dX2_value_186 : decode cX2_value 186 = .ok (.iload 7, 2) := by decide +kernel
theorem dX2_value_188 : decode cX2_value 188 = .ok (.ifCond .ne 12, 3) := by decide +kernel
theorem dX2_value_191 : decode cX2_value 191 = .ok (.aload_n 0, 1) := by decide +kernel
theorem dX2_value_192 : decode cX2_value 192 = .ok (.iload 6, 2) := by decide +kernel
theorem dX2_value_194 : decode cX2_value 194 = .ok (.invokevirtual 42, 3) := by decide +kernel
theorem dX2_value_197 : decode cX2_value 197 = .ok (.goto 12, 3) := by decide +kernel
theorem dX2_value_200 : decode cX2_value 200 = .ok (.iload 6, 2) := by decide +kernel
theorem dX2_value_202 : decode cX2_value 202 = .ok (.iload 9, 2) := by decide +kernel
theorem dX2_value_204 : decode cX2_value 204 = .ok (.iload 8, 2) := by decide +kernel
theorem dX2_value_206 : decode cX2_value 206 = .ok (.invokestatic 46, 3) := by decide +kernel
theorem dX2_value_209 : decode cX2_value 209 = .ok (.iastore, 1) := by decide +kernel
theorem dX2_value_210 : decode cX2_value 210 = .ok (.iinc 4 1, 3) := by decide +kernel
theorem dX2_value_213 : decode cX2_value 213 = .ok (.iinc 5 1, 3) := by decide +kernel
theorem dX2_value_216 : decode cX2_value 216 = .ok (.goto (-170), 3) := by decide +kernel
theorem dX2_value_219 : decode cX2_value 219 = .ok (.iload 4, 2) := by decide +kernel
theorem dX2_value_221 : decode cX2_value 221 = .ok (.ifCond .le 12, 3) := by decide +kernel
theorem dX2_value_224 : decode cX2_value 224 = .ok (.aload_n 0, 1) := by decide +kernel
theorem dX2_value_225 : decode cX2_value 225 = .ok (.getfield 18, 3) := by decide +kernel
theorem dX2_value_228 : decode cX2_value 228 = .ok (.iconst 0, 1) := by decide +kernel
theorem dX2_value_229 : decode cX2_value 229 = .ok (.iaload, 1) := by decide +kernel
theorem dX2_value_230 : decode cX2_value 230 = .ok (.goto 4, 3) := by decide +kernel
theorem dX2_value_233 : decode cX2_value 233 = .ok (.iconst 0, 1) := by decide +kernel
theorem dX2_value_234 : decode cX2_value 234 = .ok (.ireturn, 1) := by decide +kernel
theorem dX2_named_0 : decode cX2_named 0 = .ok (.iconst (-1), 1) := by decide +kernel
theorem dX2_named_1 : decode cX2_named 1 = .ok (.iload_n 1, 1) := by decide +kernel
theorem dX2_named_2 : decode cX2_named 2 = .ok (.isub, 1) := by decide +kernel
theorem dX2_named_3 : decode cX2_named 3 = .ok (.tableswitch 58 0 4 #[33, 38, 43, 48, 53], 33) := by decide +kernel
theorem dX2_named_36 : decode cX2_named 36 = .ok (.aload_n 0, 1) := by decide +kernel
theorem dX2_named_37 : decode cX2_named 37 = .ok (.getfield 50, 3) := by decide +kernel
theorem dX2_named_40 : decode cX2_named 40 = .ok (.ireturn, 1) := by decide +kernel
theorem dX2_named_41 : decode cX2_named 41 = .ok (.aload_n 0, 1) := by decide +kernel
theorem dX2_named_42 : decode cX2_named 42 = .ok (.getfield 53, 3) := by decide +kernel
theorem dX2_named_45 : decode cX2_named 45 = .ok (.ireturn, 1) := by decide +kernel
theorem dX2_named_46 : decode cX2_named 46 = .ok (.aload_n 0, 1) := by decide +kernel
theorem dX2_named_47 : decode cX2_named 47 = .ok (.getfield 56, 3) := by decide +kernel
theorem dX2_named_50 : decode cX2_named 50 = .ok (.ireturn, 1) := by decide +kernel
theorem dX2_named_51 : decode cX2_named 51 = .ok (.aload_n 0, 1) := by decide +kernel
theorem dX2_named_52 : decode cX2_named 52 = .ok (.getfield 59, 3) := by decide +kernel
theorem dX2_named_55 : decode cX2_named 55 = .ok (.ireturn, 1) := by decide +kernel
theorem dX2_named_56 : decode cX2_named 56 = .ok (.aload_n 0, 1) := by decide +kernel
theorem dX2_named_57 : decode cX2_named 57 = .ok (.getfield 62, 3) := by decide +kernel
theorem dX2_named_60 : decode cX2_named 60 = .ok (.ireturn, 1) := by decide +kernel
theorem dX2_named_61 : decode cX2_named 61 = .ok (.aload_n 0, 1) := by decide +kernel
theorem dX2_named_62 : decode cX2_named 62 = .ok (.getfield 65, 3) := by decide +kernel
theorem dX2_named_65 : decode cX2_named 65 = .ok (.ireturn, 1) := by decide +kernel
theorem dX2_joined_0 : decode cX2_joined 0 = .ok (.iload_n 0, 1) := by decide +kernel
theorem dX2_joined_1 : decode cX2_joined 1 = .ok (.tableswitch 131 (-21) (-11) #[121, 131, 131, 131, 117, 113, 109, 98, 87, 73, 59], 59) := by decide +kernel
theorem dX2_joined_60 : decode cX2_joined 60 = .ok (.iload_n 1, 1) := by decide +kernel
theorem dX2_joined_61 : decode cX2_joined 61 = .ok (.ifCond .ne 7, 3) := by decide +kernel
theorem dX2_joined_64 : decode cX2_joined 64 = .ok (.iload_n 2, 1) := by decide +kernel
theorem dX2_joined_65 : decode cX2_joined 65 = .ok (.ifCond .eq 7, 3) := by decide +kernel
theorem dX2_joined_68 : decode cX2_joined 68 = .ok (.iconst 1, 1) := by decide +kernel
theorem dX2_joined_69 : decode cX2_joined 69 = .ok (.goto 4, 3) := by decide +kernel
theorem dX2_joined_72 : decode cX2_joined 72 = .ok (.iconst 0, 1) := by decide +kernel
theorem dX2_joined_73 : decode cX2_joined 73 = .ok (.ireturn, 1) := by decide +kernel
theorem dX2_joined_74 : decode cX2_joined 74 = .ok (.iload_n 1, 1) := by decide +kernel
theorem dX2_joined_75 : decode cX2_joined 75 = .ok (.ifCond .eq 11, 3) := by decide +kernel
theorem dX2_joined_78 : decode cX2_joined 78 = .ok (.iload_n 2, 1) := by decide +kernel
theorem dX2_joined_79 : decode cX2_joined 79 = .ok (.ifCond .eq 7, 3) := by decide +kernel
theorem dX2_joined_82 : decode cX2_joined 82 = .ok (.iconst 1, 1) := by decide +kernel
theorem dX2_joined_83 : decode cX2_joined 83 = .ok (.goto 4, 3) := by decide +kernel
theorem dX2_joined_86 : decode cX2_joined 86 = .ok (.iconst 0, 1) := by decide +kernel
theorem dX2_joined_87 : decode cX2_joined 87 = .ok (.ireturn, 1) := by decide +kernel
theorem dX2_joined_88 : decode cX2_joined 88 = .ok (.iload_n 1, 1) := by decide +kernel
theorem dX2_joined_89 : decode cX2_joined 89 = .ok (.iload_n 2, 1) := by decide +kernel
theorem dX2_joined_90 : decode cX2_joined 90 = .ok (.if_icmp .ge 7, 3) := by decide +kernel
theorem dX2_joined_93 : decode cX2_joined 93 = .ok (.iconst 1, 1) := by decide +kernel
theorem dX2_joined_94 : decode cX2_joined 94 = .ok (.goto 4, 3) := by decide +kernel
theorem dX2_joined_97 : decode cX2_joined 97 = .ok (.iconst 0, 1) := by decide +kernel
theorem dX2_joined_98 : decode cX2_joined 98 = .ok (.ireturn, 1) := by decide +kernel
theorem dX2_joined_99 : decode cX2_joined 99 = .ok (.iload_n 1, 1) := by decide +kernel
theorem dX2_joined_100 : decode cX2_joined 100 = .ok (.iload_n 2, 1) := by decide +kernel
theorem dX2_joined_101 : decode cX2_joined 101 = .ok (.if_icmp .ne 7, 3) := by decide +kernel
theorem dX2_joined_104 : decode cX2_joined 104 = .ok (.iconst 1, 1) := by decide +kernel
theorem dX2_joined_105 : decode cX2_joined 105 = .ok (.goto 4, 3) := by decide +kernel
theorem dX2_joined_108 : decode cX2_joined 108 = .ok (.iconst 0, 1) := by decide +kernel
theorem dX2_joined_109 : decode cX2_joined 109 = .ok (.ireturn, 1) := by decide +kernel
theorem dX2_joined_110 : decode cX2_joined 110 = .ok (.iload_n 1, 1) := by decide +kernel
theorem dX2_joined_111 : decode cX2_joined 111 = .ok (.iload_n 2, 1) := by decide +kernel
theorem dX2_joined_112 : decode cX2_joined 112 = .ok (.iadd, 1) := by decide +kernel
theorem dX2_joined_113 : decode cX2_joined 113 = .ok (.ireturn, 1) := by decide +kernel
theorem dX2_joined_114 : decode cX2_joined 114 = .ok (.iload_n 1, 1) := by decide +kernel
theorem dX2_joined_115 : decode cX2_joined 115 = .ok (.iload_n 2, 1) := by decide +kernel
theorem dX2_joined_116 : decode cX2_joined 116 = .ok (.isub, 1) := by decide +kernel
theorem dX2_joined_117 : decode cX2_joined 117 = .ok (.ireturn, 1) := by decide +kernel
theorem dX2_joined_118 : decode cX2_joined 118 = .ok (.iload_n 1, 1) := by decide +kernel
theorem dX2_joined_119 : decode cX2_joined 119 = .ok (.iload_n 2, 1) := by decide +kernel
theorem dX2_joined_120 : decode cX2_joined 120 = .ok (.imul, 1) := by decide +kernel
theorem dX2_joined_121 : decode cX2_joined 121 = .ok (.ireturn, 1) := by decide +kernel
theorem dX2_joined_122 : decode cX2_joined 122 = .ok (.iload_n 2, 1) := by decide +kernel
theorem dX2_joined_123 : decode cX2_joined 123 = .ok (.ifCond .ne 7, 3) := by decide +kernel
theorem dX2_joined_126 : decode cX2_joined 126 = .ok (.iconst 1, 1) := by decide +kernel
theorem dX2_joined_127 : decode cX2_joined 127 = .ok (.goto 4, 3) := by decide +kernel
theorem dX2_joined_130 : decode cX2_joined 130 = .ok (.iconst 0, 1) := by decide +kernel
theorem dX2_joined_131 : decode cX2_joined 131 = .ok (.ireturn, 1) := by decide +kernel
theorem dX2_joined_132 : decode cX2_joined 132 = .ok (.iload_n 2, 1) := by decide +kernel
theorem dX2_joined_133 : decode cX2_joined 133 = .ok (.ineg, 1) := by decide +kernel
theorem dX2_joined_134 : decode cX2_joined 134 = .ok (.ireturn, 1) := by decide +kernel
theorem dX3_init_0 : decode cX3_init 0 = .ok (.aload_n 0, 1) := by decide +kernel
theorem dX3_init_1 : decode cX3_init 1 = .ok (.invokespecial 3, 3) := by decide +kernel
theorem dX3_init_4 : decode cX3_init 4 = .ok (.aload_n 0, 1) := by decide +kernel
theorem dX3_init_5 : decode cX3_init 5 = .ok (.iconst 1, 1) := by decide +kernel
theorem dX3_init_6 : decode cX3_init 6 = .ok (.putfield 9, 3) := by decide +kernel
theorem dX3_init_9 : decode cX3_init 9 = .ok (.aload_n 0, 1) := by decide +kernel
theorem dX3_init_10 : decode cX3_init 10 = .ok (.iconst 5, 1) := by decide +kernel
theorem dX3_init_11 : decode cX3_init 11 = .ok (.newarray .int, 2) := by decide +kernel
theorem dX3_init_13 : decode cX3_init 13 = .ok (.putfield 15, 3) := by decide +kernel
theorem dX3_init_16 : decode cX3_init 16 = .ok (.aload_n 0, 1) := by decide +kernel
theorem dX3_init_17 : decode cX3_init 17 = .ok (.iconst 5, 1) := by decide +kernel
theorem dX3_init_18 : decode cX3_init 18 = .ok (.newarray .int, 2) := by decide +kernel
theorem dX3_init_20 : decode cX3_init 20 = .ok (.putfield 19, 3) := by decide +kernel
theorem dX3_init_23 : decode cX3_init 23 = .ok (.aload_n 0, 1) := by decide +kernel
theorem dX3_init_24 : decode cX3_init 24 = .ok (.iconst 5, 1) := by decide +kernel
theorem dX3_init_25 : decode cX3_init 25 = .ok (.newarray .int, 2) := by decide +kernel
theorem dX3_init_27 : decode cX3_init 27 = .ok (.putfield 22, 3) := by decide +kernel
theorem dX3_init_30 : decode cX3_init 30 = .ok (.aload_n 0, 1) := by decide +kernel
theorem dX3_init_31 : decode cX3_init 31 = .ok (.bipush 8, 2) := by decide +kernel
theorem dX3_init_33 : decode cX3_init 33 = .ok (.newarray .int, 2) := by decide +kernel
theorem dX3_init_35 : decode cX3_init 35 = .ok (.putfield 25, 3) := by decide +kernel
theorem dX3_init_38 : decode cX3_init 38 = .ok (.aload_n 0, 1) := by decide +kernel
theorem dX3_init_39 : decode cX3_init 39 = .ok (.bipush 8, 2) := by decide +kernel
theorem dX3_init_41 : decode cX3_init 41 = .ok (.newarray .int, 2) := by decide +kernel
theorem dX3_init_43 : decode cX3_init 43 = .ok (.putfield 28, 3) := by decide +kernel
theorem dX3_init_46 : decode cX3_init 46 = .ok (.aload_n 0, 1) := by decide +kernel
theorem dX3_init_47 : decode cX3_init 47 = .ok (.bipush 8, 2) := by decide +kernel
theorem dX3_init_49 : decode cX3_init 49 = .ok (.newarray .int, 2) := by decide +kernel
theorem dX3_init_51 : decode cX3_init 51 = .ok (.putfield 31, 3) := by decide +kernel
theorem dX3_init_54 : decode cX3_init 54 = .ok (.aload_n 0, 1) := by decide +kernel
theorem dX3_init_55 : decode cX3_init 55 = .ok (.bipush 8, 2) := by decide +kernel
theorem dX3_init_57 : decode cX3_init 57 = .ok (.newarray .int, 2) := by decide +kernel
theorem dX3_init_59 : decode cX3_init 59 = .ok (.putfield 34, 3) := by decide +kernel
theorem dX3_init_62 : decode cX3_init 62 = .ok (.aload_n 0, 1) := by decide +kernel
theorem dX3_init_63 : decode cX3_init 63 = .ok (.bipush 8, 2) := by decide +kernel
theorem dX3_init_65 : decode cX3_init 65 = .ok (.newarray .int, 2) := by decide +kernel
theorem dX3_init_67 : decode cX3_init 67 = .ok (.putfield 37, 3) := by decide +kernel
theorem dX3_init_70 : decode cX3_init 70 = .ok (.aload_n 0, 1) := by decide +kernel
theorem dX3_init_71 : decode cX3_init 71 = .ok (.aload_n 1, 1) := by decide +kernel
theorem dX3_init_72 : decode cX3_init 72 = .ok (.putfield 40, 3) := by decide +kernel
theorem dX3_init_75 : decode cX3_init 75 = .ok (.return_, 1) := by decide +kernel
theorem dX3_takeOver_0 : decode cX3_takeOver 0 = .ok (.aload_n 0, 1) := by decide +kernel
theorem dX3_takeOver_1 : decode cX3_takeOver 1 = .ok (.aload_n 1, 1) := by decide +kernel
theorem dX3_takeOver_2 : decode cX3_takeOver 2 = .ok (.getfield 44, 3) := by decide +kernel
theorem dX3_takeOver_5 : decode cX3_takeOver 5 = .ok (.putfield 44, 3) := by decide +kernel
theorem dX3_takeOver_8 : decode cX3_takeOver 8 = .ok (.aload_n 0, 1) := by decide +kernel
theorem dX3_takeOver_9 : decode cX3_takeOver 9 = .ok (.aload_n 1, 1) := by decide +kernel
theorem dX3_takeOver_10 : decode cX3_takeOver 10 = .ok (.getfield 9, 3) := by decide +kernel
theorem dX3_takeOver_13 : decode cX3_takeOver 13 = .ok (.putfield 9, 3) := by decide +kernel
theorem dX3_takeOver_16 : decode cX3_takeOver 16 = .ok (.aload_n 0, 1) := by decide +kernel
theorem dX3_takeOver_17 : decode cX3_takeOver 17 = .ok (.aload_n 1, 1) := by decide +kernel
theorem dX3_takeOver_18 : decode cX3_takeOver 18 = .ok (.getfield 47, 3) := by decide +kernel
theorem dX3_takeOver_21 : decode cX3_takeOver 21 = .ok (.putfield 47, 3) := by decide +kernel
theorem dX3_takeOver_24 : decode cX3_takeOver 24 = .ok (.aload_n 0, 1) := by decide +kernel
theorem dX3_takeOver_25 : decode cX3_takeOver 25 = .ok (.aload_n 1, 1) := by decide +kernel
theorem dX3_takeOver_26 : decode cX3_takeOver 26 = .ok (.getfield 50, 3) := by decide +kernel
theorem dX3_takeOver_29 : decode cX3_takeOver 29 = .ok (.putfield 50, 3) := by decide +kernel
theorem dX3_takeOver_32 : decode cX3_takeOver 32 = .ok (.aload_n 0, 1) := by decide +kernel
theorem dX3_takeOver_33 : decode cX3_takeOver 33 = .ok (.aload_n 1, 1) := by decide +kernel
theorem dX3_takeOver_34 : decode cX3_takeOver 34 = .ok (.getfield 53, 3) := by decide +kernel
theorem dX3_takeOver_37 : decode cX3_takeOver 37 = .ok (.putfield 53, 3) := by decide +kernel
theorem dX3_takeOver_40 : decode cX3_takeOver 40 = .ok (.aload_n 0, 1) := by decide +kernel
theorem dX3_takeOver_41 : decode cX3_takeOver 41 = .ok (.iconst 0, 1) := by decide +kernel
theorem dX3_takeOver_42 : decode cX3_takeOver 42 = .ok (.putfield 56, 3) := by decide +kernel
theorem dX3_takeOver_45 : decode cX3_takeOver 45 = .ok (.iconst 0, 1) := by decide +kernel
theorem dX3_takeOver_46 : decode cX3_takeOver 46 = .ok (.istore_n 2, 1) := by decide +kernel
theorem dX3_takeOver_47 : decode cX3_takeOver 47 = .ok (.iload_n 2, 1) := by decide +kernel
theorem dX3_takeOver_48 : decode cX3_takeOver 48 = .ok (.iconst 5, 1) := by decide +kernel
theorem dX3_takeOver_49 : decode cX3_takeOver 49 = .ok (.if_icmp .ge 45, 3) := by decide +kernel
theorem dX3_takeOver_52 : decode cX3_takeOver 52 = .ok (.aload_n 0, 1) := by decide +kernel
theorem dX3_takeOver_53 : decode cX3_takeOver 53 = .ok (.getfield 15, 3) := by decide +kernel
theorem dX3_takeOver_56 : decode cX3_takeOver 56 = .ok (.iload_n 2, 1) := by decide +kernel
theorem dX3_takeOver_57 : decode cX3_takeOver 57 = .ok (.aload_n 1, 1) := by decide +kernel
theorem dX3_takeOver_58 : decode cX3_takeOver 58 = .ok (.getfield 15, 3) := by decide +kernel
theorem dX3_takeOver_61 : decode cX3_takeOver 61 = .ok (.iload_n 2, 1) := by decide +kernel
theorem dX3_takeOver_62 : decode cX3_takeOver 62 = .ok (.iaload, 1) := by decide +kernel
theorem dX3_takeOver_63 : decode cX3_takeOver 63 = .ok (.iastore, 1) := by decide +kernel
theorem dX3_takeOver_64 : decode cX3_takeOver 64 = .ok (.aload_n 0, 1) := by decide +kernel
theorem dX3_takeOver_65 : decode cX3_takeOver 65 = .ok (.getfield 19, 3) := by decide +kernel
theorem dX3_takeOver_68 : decode cX3_takeOver 68 = .ok (.iload_n 2, 1) := by decide +kernel
theorem dX3_takeOver_69 : decode cX3_takeOver 69 = .ok (.aload_n 1, 1) := by decide +kernel
theorem dX3_takeOver_70 : decode cX3_takeOver 70 = .ok (.getfield 19, 3) := by decide +kernel
theorem dX3_takeOver_73 : decode cX3_takeOver 73 = .ok (.iload_n 2, 1) := by decide +kernel
theorem dX3_takeOver_74 : decode cX3_takeOver 74 = .ok (.iaload, 1) := by decide +kernel
theorem dX3_takeOver_75 : decode cX3_takeOver 75 = .ok (.iastore, 1) := by decide +kernel
theorem dX3_takeOver_76 : decode cX3_takeOver 76 = .ok (.aload_n 0, 1) := by decide +kernel
theorem dX3_takeOver_77 : decode cX3_takeOver 77 = .ok (.getfield 22, 3) := by decide +kernel
theorem dX3_takeOver_80 : decode cX3_takeOver 80 = .ok (.iload_n 2, 1) := by decide +kernel
theorem dX3_takeOver_81 : decode cX3_takeOver 81 = .ok (.aload_n 1, 1) := by decide +kernel
theorem dX3_takeOver_82 : decode cX3_takeOver 82 = .ok (.getfield 22, 3) := by decide +kernel
theorem dX3_takeOver_85 : decode cX3_takeOver 85 = .ok (.iload_n 2, 1) := by decide +kernel
theorem dX3_takeOver_86 : decode cX3_takeOver 86 = .ok (.iaload, 1) := by decide +kernel
theorem dX3_takeOver_87 : decode cX3_takeOver 87 = .ok (.iastore, 1) := by decide +kernel
theorem dX3_takeOver_88 : decode cX3_takeOver 88 = .ok (.iinc 2 1, 3) := by decide +kernel
theorem dX3_takeOver_91 : decode cX3_takeOver 91 = .ok (.goto (-44), 3) := by decide +kernel
theorem dX3_takeOver_94 : decode cX3_takeOver 94 = .ok (.iconst 0, 1) := by decide +kernel
theorem dX3_takeOver_95 : decode cX3_takeOver 95 = .ok (.istore_n 2, 1) := by decide +kernel
theorem dX3_takeOver_96 : decode cX3_takeOver 96 = .ok (.iload_n 2, 1) := by decide +kernel
theorem dX3_takeOver_97 : decode cX3_takeOver 97 = .ok (.bipush 8, 2) := by decide +kernel
theorem dX3_takeOver_99 : decode cX3_takeOver 99 = .ok (.if_icmp .ge 69, 3) := by decide +kernel
theorem dX3_takeOver_102 : decode cX3_takeOver 102 = .ok (.aload_n 0, 1) := by decide +kernel
theorem dX3_takeOver_103 : decode cX3_takeOver 103 = .ok (.getfield 25, 3) := by decide +kernel
theorem dX3_takeOver_106 : decode cX3_takeOver 106 = .ok (.iload_n 2, 1) := by decide +kernel
theorem dX3_takeOver_107 : decode cX3_takeOver 107 = .ok (.aload_n 1, 1) := by decide +kernel
theorem dX3_takeOver_108 : decode cX3_takeOver 108 = .ok (.getfield 25, 3) := by decide +kernel
theorem dX3_takeOver_111 : decode cX3_takeOver 111 = .ok (.iload_n 2, 1) := by decide +kernel
theorem dX3_takeOver_112 : decode cX3_takeOver 112 = .ok (.iaload, 1) := by decide +kernel
theorem dX3_takeOver_113 : decode cX3_takeOver 113 = .ok (.iastore, 1) := by decide +kernel
theorem dX3_takeOver_114 : decode cX3_takeOver 114 = .ok (.aload_n 0, 1) := by decide +kernel
theorem dX3_takeOver_115 : decode cX3_takeOver 115 = .ok (.getfield 28, 3) := by decide +kernel
theorem dX3_takeOver_118 : decode cX3_takeOver 118 = .ok (.iload_n 2, 1) := by decide +kernel
theorem dX3_takeOver_119 : decode cX3_takeOver 119 = .ok (.aload_n 1, 1) := by decide +kernel
theorem dX3_takeOver_120 : decode cX3_takeOver 120 = .ok (.getfield 28, 3) := by decide +kernel
theorem dX3_takeOver_123 : decode cX3_takeOver 123 = .ok (.iload_n 2, 1) := by decide +kernel
theorem dX3_takeOver_124 : decode cX3_takeOver 124 = .ok (.iaload, 1) := by decide +kernel
theorem dX3_takeOver_125 : decode cX3_takeOver 125 = .ok (.iastore, 1) := by decide +kernel
theorem dX3_takeOver_126 : decode cX3_takeOver 126 = .ok (.aload_n 0, 1) := by decide +kernel
theorem dX3_takeOver_127 : decode cX3_takeOver 127 = .ok (.getfield 31, 3) := by decide +kernel
theorem dX3_takeOver_130 : decode cX3_takeOver 130 = .ok (.iload_n 2, 1) := by decide +kernel
theorem dX3_takeOver_131 : decode cX3_takeOver 131 = .ok (.aload_n 1, 1) := by decide +kernel
theorem dX3_takeOver_132 : decode cX3_takeOver 132 = .ok (.getfield 31, 3) := by decide +kernel
theorem dX3_takeOver_135 : decode cX3_takeOver 135 = .ok (.iload_n 2, 1) := by decide +kernel
theorem dX3_takeOver_136 : decode cX3_takeOver 136 = .ok (.iaload, 1) := by decide +kernel
theorem dX3_takeOver_137 : decode cX3_takeOver 137 = .ok (.iastore, 1) := by decide +kernel
theorem dX3_takeOver_138 : decode cX3_takeOver 138 = .ok (.aload_n 0, 1) := by decide +kernel
theorem dX3_takeOver_139 : decode cX3_takeOver 139 = .ok (.getfield 34, 3) := by decide +kernel
theorem dX3_takeOver_142 : decode cX3_takeOver 142 = .ok (.iload_n 2, 1) := by decide +kernel
theorem dX3_takeOver_143 : decode cX3_takeOver 143 = .ok (.aload_n 1, 1) := by decide +kernel
theorem dX3_takeOver_144 : decode cX3_takeOver 144 = .ok (.getfield 34, 3) := by decide +kernel
theorem dX3_takeOver_147 : decode cX3_takeOver 147 = .ok (.iload_n 2, 1) := by decide +kernel
theorem dX3_takeOver_148 : decode cX3_takeOver 148 = .ok (.iaload, 1) := by decide +kernel
theorem dX3_takeOver_149 : decode cX3_takeOver 149 = .ok (.iastore, 1) := by decide +kernel
theorem dX3_takeOver_150 : decode cX3_takeOver 150 = .ok (.aload_n 0, 1) := by decide +kernel
theorem dX3_takeOver_151 : decode cX3_takeOver 151 = .ok (.getfield 37, 3) := by decide +kernel
theorem dX3_takeOver_154 : decode cX3_takeOver 154 = .ok (.iload_n 2, 1) := by decide +kernel
theorem dX3_takeOver_155 : decode cX3_takeOver 155 = .ok (.aload_n 1, 1) := by decide +kernel
theorem dX3_takeOver_156 : decode cX3_takeOver 156 = .ok (.getfield 37, 3) := by decide +kernel
theorem dX3_takeOver_159 : decode cX3_takeOver 159 = .ok (.iload_n 2, 1) := by decide +kernel
theorem dX3_takeOver_160 : decode cX3_takeOver 160 = .ok (.iaload, 1) := by decide +kernel
theorem dX3_takeOver_161 : decode cX3_takeOver 161 = .ok (.iastore, 1) := by decide +kernel
theorem dX3_takeOver_162 : decode cX3_takeOver 162 = .ok (.iinc 2 1, 3) := by decide +kernel
theorem dX3_takeOver_165 : decode cX3_takeOver 165 = .ok (.goto (-69), 3) := by decide +kernel
theorem dX3_takeOver_168 : decode cX3_takeOver 168 = .ok (.return_, 1) := by decide +kernel
theorem dX3_isOne_0 : decode cX3_isOne 0 = .ok (.iload_n 1, 1) := by decide +kernel
theorem dX3_isOne_1 : decode cX3_isOne 1 = .ok (.ifCond .lt 20, 3) := by decide +kernel
theorem dX3_isOne_4 : decode cX3_isOne 4 = .ok (.iload_n 1, 1) := by decide +kernel
theorem dX3_isOne_5 : decode cX3_isOne 5 = .ok (.aload_n 0, 1) := by decide +kernel
theorem dX3_isOne_6 : decode cX3_isOne 6 = .ok (.getfield 50, 3) := by decide +kernel
theorem dX3_isOne_9 : decode cX3_isOne 9 = .ok (.if_icmp .ge 12, 3) := by decide +kernel
theorem dX3_isOne_12 : decode cX3_isOne 12 = .ok (.iload_n 1, 1) := by decide +kernel
theorem dX3_isOne_13 : decode cX3_isOne 13 = .ok (.iconst 5, 1) := by decide +kernel
theorem dX3_isOne_14 : decode cX3_isOne 14 = .ok (.if_icmp .ge 7, 3) := by decide +kernel
theorem dX3_isOne_17 : decode cX3_isOne 17 = .ok (.iconst 1, 1) := by decide +kernel
theorem dX3_isOne_18 : decode cX3_isOne 18 = .ok (.goto 4, 3) := by decide +kernel
theorem dX3_isOne_21 : decode cX3_isOne 21 = .ok (.iconst 0, 1) := by decide +kernel
theorem dX3_isOne_22 : decode cX3_isOne 22 = .ok (.ireturn, 1) := by decide +kernel
theorem dX3_areTwo_0 : decode cX3_areTwo 0 = .ok (.aload_n 0, 1) := by decide +kernel
theorem dX3_areTwo_1 : decode cX3_areTwo 1 = .ok (.iload_n 1, 1) := by decide +kernel
theorem dX3_areTwo_2 : decode cX3_areTwo 2 = .ok (.invokevirtual 59, 3) := by decide +kernel
theorem dX3_areTwo_5 : decode cX3_areTwo 5 = .ok (.ifCond .eq 20, 3) := by decide +kernel
theorem dX3_areTwo_8 : decode cX3_areTwo 8 = .ok (.aload_n 0, 1) := by decide +kernel
theorem dX3_areTwo_9 : decode cX3_areTwo 9 = .ok (.iload_n 2, 1) := by decide +kernel
theorem dX3_areTwo_10 : decode cX3_areTwo 10 = .ok (.invokevirtual 59, 3) := by decide +kernel
theorem dX3_areTwo_13 : decode cX3_areTwo 13 = .ok (.ifCond .eq 12, 3) := by decide +kernel
theorem dX3_areTwo_16 : decode cX3_areTwo 16 = .ok (.iload_n 1, 1) := by decide +kernel
theorem dX3_areTwo_17 : decode cX3_areTwo 17 = .ok (.iload_n 2, 1) := by decide +kernel
theorem dX3_areTwo_18 : decode cX3_areTwo 18 = .ok (.if_icmp .eq 7, 3) := by decide +kernel
theorem dX3_areTwo_21 : decode cX3_areTwo 21 = .ok (.iconst 1, 1) := by decide +kernel
theorem dX3_areTwo_22 : decode cX3_areTwo 22 = .ok (.goto 4, 3) := by decide +kernel
theorem dX3_areTwo_25 : decode cX3_areTwo 25 = .ok (.iconst 0, 1) := by decide +kernel
theorem dX3_areTwo_26 : decode cX3_areTwo 26 = .ok (.ireturn, 1) := by decide +kernel
theorem dX3_isLetter_0 : decode cX3_isLetter 0 = .ok (.iload_n 1, 1) := by decide +kernel
theorem dX3_isLetter_1 : decode cX3_isLetter 1 = .ok (.ifCond .lt 21, 3) := by decide +kernel
theorem dX3_isLetter_4 : decode cX3_isLetter 4 = .ok (.iload_n 1, 1) := by decide +kernel
theorem dX3_isLetter_5 : decode cX3_isLetter 5 = .ok (.aload_n 0, 1) := by decide +kernel
theorem dX3_isLetter_6 : decode cX3_isLetter 6 = .ok (.getfield 53, 3) := by decide +kernel
theorem dX3_isLetter_9 : decode cX3_isLetter 9 = .ok (.if_icmp .ge 13, 3) := by decide +kernel
theorem dX3_isLetter_12 : decode cX3_isLetter 12 = .ok (.iload_n 1, 1) := by decide +kernel
theorem dX3_isLetter_13 : decode cX3_isLetter 13 = .ok (.bipush 8, 2) := by decide +kernel
theorem dX3_isLetter_15 : decode cX3_isLetter 15 = .ok (.if_icmp .ge 7, 3) := by decide +kernel
theorem dX3_isLetter_18 : decode cX3_isLetter 18 = .ok (.iconst 1, 1) := by decide +kernel
theorem dX3_isLetter_19 : decode cX3_isLetter 19 = .ok (.goto 4, 3) := by decide +kernel
theorem dX3_isLetter_22 : decode cX3_isLetter 22 = .ok (.iconst 0, 1) := by decide +kernel
theorem dX3_isLetter_23 : decode cX3_isLetter 23 = .ok (.ireturn, 1) := by decide +kernel
theorem dX3_hasRoom_0 : decode cX3_hasRoom 0 = .ok (.aload_n 0, 1) := by decide +kernel
theorem dX3_hasRoom_1 : decode cX3_hasRoom 1 = .ok (.getfield 53, 3) := by decide +kernel
theorem dX3_hasRoom_4 : decode cX3_hasRoom 4 = .ok (.bipush 8, 2) := by decide +kernel
theorem dX3_hasRoom_6 : decode cX3_hasRoom 6 = .ok (.if_icmp .ge 7, 3) := by decide +kernel
theorem dX3_hasRoom_9 : decode cX3_hasRoom 9 = .ok (.iconst 1, 1) := by decide +kernel
theorem dX3_hasRoom_10 : decode cX3_hasRoom 10 = .ok (.goto 4, 3) := by decide +kernel
theorem dX3_hasRoom_13 : decode cX3_hasRoom 13 = .ok (.iconst 0, 1) := by decide +kernel
theorem dX3_hasRoom_14 : decode cX3_hasRoom 14 = .ok (.ireturn, 1) := by decide +kernel
theorem dX3_kindOf_0 : decode cX3_kindOf 0 = .ok (.aload_n 0, 1) := by decide +kernel
theorem dX3_kindOf_1 : decode cX3_kindOf 1 = .ok (.iload_n 1, 1) := by decide +kernel
theorem dX3_kindOf_2 : decode cX3_kindOf 2 = .ok (.invokevirtual 59, 3) := by decide +kernel
theorem dX3_kindOf_5 : decode cX3_kindOf 5 = .ok (.ifCond .eq 12, 3) := by decide +kernel
theorem dX3_kindOf_8 : decode cX3_kindOf 8 = .ok (.aload_n 0, 1) := by decide +kernel
theorem dX3_kindOf_9 : decode cX3_kindOf 9 = .ok (.getfield 15, 3) := by decide +kernel
theorem dX3_kindOf_12 : decode cX3_kindOf 12 = .ok (.iload_n 1, 1) := by decide +kernel
theorem dX3_kindOf_13 : decode cX3_kindOf 13 = .ok (.iaload, 1) := by decide +kernel
theorem dX3_kindOf_14 : decode cX3_kindOf 14 = .ok (.goto 4, 3) := by decide +kernel
theorem dX3_kindOf_17 : decode cX3_kindOf 17 = .ok (.iconst (-1), 1) := by decide +kernel
theorem dX3_kindOf_18 : decode cX3_kindOf 18 = .ok (.ireturn, 1) := by decide +kernel
theorem dX3_numberOf_0 : decode cX3_numberOf 0 = .ok (.aload_n 0, 1) := by decide +kernel
theorem dX3_numberOf_1 : decode cX3_numberOf 1 = .ok (.iload_n 1, 1) := by decide +kernel
theorem dX3_numberOf_2 : decode cX3_numberOf 2 = .ok (.invokevirtual 59, 3) := by decide +kernel
theorem dX3_numberOf_5 : decode cX3_numberOf 5 = .ok (.ifCond .eq 12, 3) := by decide +kernel
theorem dX3_numberOf_8 : decode cX3_numberOf 8 = .ok (.aload_n 0, 1) := by decide +kernel
theorem dX3_numberOf_9 : decode cX3_numberOf 9 = .ok (.getfield 19, 3) := by decide +kernel
theorem dX3_numberOf_12 : decode cX3_numberOf 12 = .ok (.iload_n 1, 1) := by decide +kernel
theorem dX3_numberOf_13 : decode cX3_numberOf 13 = .ok (.iaload, 1) := by decide +kernel
theorem dX3_numberOf_14 : decode cX3_numberOf 14 = .ok (.goto 4, 3) := by decide +kernel
theorem dX3_numberOf_17 : decode cX3_numberOf 17 = .ok (.iconst (-1), 1) := by decide +kernel
theorem dX3_numberOf_18 : decode cX3_numberOf 18 = .ok (.ireturn, 1) := by decide +kernel
theorem dX3_houseOf_0 : decode cX3_houseOf 0 = .ok (.aload_n 0, 1) := by decide +kernel
theorem dX3_houseOf_1 : decode cX3_houseOf 1 = .ok (.iload_n 1, 1) := by decide +kernel
theorem dX3_houseOf_2 : decode cX3_houseOf 2 = .ok (.invokevirtual 59, 3) := by decide +kernel
theorem dX3_houseOf_5 : decode cX3_houseOf 5 = .ok (.ifCond .eq 12, 3) := by decide +kernel
theorem dX3_houseOf_8 : decode cX3_houseOf 8 = .ok (.aload_n 0, 1) := by decide +kernel
theorem dX3_houseOf_9 : decode cX3_houseOf 9 = .ok (.getfield 22, 3) := by decide +kernel
theorem dX3_houseOf_12 : decode cX3_houseOf 12 = .ok (.iload_n 1, 1) := by decide +kernel
theorem dX3_houseOf_13 : decode cX3_houseOf 13 = .ok (.iaload, 1) := by decide +kernel
theorem dX3_houseOf_14 : decode cX3_houseOf 14 = .ok (.goto 4, 3) := by decide +kernel
theorem dX3_houseOf_17 : decode cX3_houseOf 17 = .ok (.iconst (-1), 1) := by decide +kernel
theorem dX3_houseOf_18 : decode cX3_houseOf 18 = .ok (.ireturn, 1) := by decide +kernel
theorem dX3_fromWhom_0 : decode cX3_fromWhom 0 = .ok (.aload_n 0, 1) := by decide +kernel
theorem dX3_fromWhom_1 : decode cX3_fromWhom 1 = .ok (.iload_n 1, 1) := by decide +kernel
theorem dX3_fromWhom_2 : decode cX3_fromWhom 2 = .ok (.invokevirtual 63, 3) := by decide +kernel
theorem dX3_fromWhom_5 : decode cX3_fromWhom 5 = .ok (.ifCond .eq 12, 3) := by decide +kernel
theorem dX3_fromWhom_8 : decode cX3_fromWhom 8 = .ok (.aload_n 0, 1) := by decide +kernel
theorem dX3_fromWhom_9 : decode cX3_fromWhom 9 = .ok (.getfield 25, 3) := by decide +kernel
theorem dX3_fromWhom_12 : decode cX3_fromWhom 12 = .ok (.iload_n 1, 1) := by decide +kernel
theorem dX3_fromWhom_13 : decode cX3_fromWhom 13 = .ok (.iaload, 1) := by decide +kernel
theorem dX3_fromWhom_14 : decode cX3_fromWhom 14 = .ok (.goto 4, 3) := by decide +kernel
theorem dX3_fromWhom_17 : decode cX3_fromWhom 17 = .ok (.iconst (-1), 1) := by decide +kernel
theorem dX3_fromWhom_18 : decode cX3_fromWhom 18 = .ok (.ireturn, 1) := by decide +kernel
theorem dX3_toWhom_0 : decode cX3_toWhom 0 = .ok (.aload_n 0, 1) := by decide +kernel
theorem dX3_toWhom_1 : decode cX3_toWhom 1 = .ok (.iload_n 1, 1) := by decide +kernel
theorem dX3_toWhom_2 : decode cX3_toWhom 2 = .ok (.invokevirtual 63, 3) := by decide +kernel
theorem dX3_toWhom_5 : decode cX3_toWhom 5 = .ok (.ifCond .eq 12, 3) := by decide +kernel
theorem dX3_toWhom_8 : decode cX3_toWhom 8 = .ok (.aload_n 0, 1) := by decide +kernel
theorem dX3_toWhom_9 : decode cX3_toWhom 9 = .ok (.getfield 28, 3) := by decide +kernel
theorem dX3_toWhom_12 : decode cX3_toWhom 12 = .ok (.iload_n 1, 1) := by decide +kernel
theorem dX3_toWhom_13 : decode cX3_toWhom 13 = .ok (.iaload, 1) := by decide +kernel
theorem dX3_toWhom_14 : decode cX3_toWhom 14 = .ok (.goto 4, 3) := by decide +kernel
theorem dX3_toWhom_17 : decode cX3_toWhom 17 = .ok (.iconst (-1), 1) := by decide +kernel
theorem dX3_toWhom_18 : decode cX3_toWhom 18 = .ok (.ireturn, 1) := by decide +kernel
theorem dX3_whereIs_0 : decode cX3_whereIs 0 = .ok (.aload_n 0, 1) := by decide +kernel
theorem dX3_whereIs_1 : decode cX3_whereIs 1 = .ok (.iload_n 1, 1) := by decide +kernel
theorem dX3_whereIs_2 : decode cX3_whereIs 2 = .ok (.invokevirtual 63, 3) := by decide +kernel
theorem dX3_whereIs_5 : decode cX3_whereIs 5 = .ok (.ifCond .eq 12, 3) := by decide +kernel
theorem dX3_whereIs_8 : decode cX3_whereIs 8 = .ok (.aload_n 0, 1) := by decide +kernel
theorem dX3_whereIs_9 : decode cX3_whereIs 9 = .ok (.getfield 31, 3) := by decide +kernel
theorem dX3_whereIs_12 : decode cX3_whereIs 12 = .ok (.iload_n 1, 1) := by decide +kernel
theorem dX3_whereIs_13 : decode cX3_whereIs 13 = .ok (.iaload, 1) := by decide +kernel
theorem dX3_whereIs_14 : decode cX3_whereIs 14 = .ok (.goto 4, 3) := by decide +kernel
theorem dX3_whereIs_17 : decode cX3_whereIs 17 = .ok (.iconst (-1), 1) := by decide +kernel
theorem dX3_whereIs_18 : decode cX3_whereIs 18 = .ok (.ireturn, 1) := by decide +kernel
theorem dX3_toneOf_0 : decode cX3_toneOf 0 = .ok (.aload_n 0, 1) := by decide +kernel
theorem dX3_toneOf_1 : decode cX3_toneOf 1 = .ok (.iload_n 1, 1) := by decide +kernel
theorem dX3_toneOf_2 : decode cX3_toneOf 2 = .ok (.invokevirtual 63, 3) := by decide +kernel
theorem dX3_toneOf_5 : decode cX3_toneOf 5 = .ok (.ifCond .eq 12, 3) := by decide +kernel
theorem dX3_toneOf_8 : decode cX3_toneOf 8 = .ok (.aload_n 0, 1) := by decide +kernel
theorem dX3_toneOf_9 : decode cX3_toneOf 9 = .ok (.getfield 34, 3) := by decide +kernel
theorem dX3_toneOf_12 : decode cX3_toneOf 12 = .ok (.iload_n 1, 1) := by decide +kernel
theorem dX3_toneOf_13 : decode cX3_toneOf 13 = .ok (.iaload, 1) := by decide +kernel
theorem dX3_toneOf_14 : decode cX3_toneOf 14 = .ok (.goto 4, 3) := by decide +kernel
theorem dX3_toneOf_17 : decode cX3_toneOf 17 = .ok (.iconst 0, 1) := by decide +kernel
theorem dX3_toneOf_18 : decode cX3_toneOf 18 = .ok (.ireturn, 1) := by decide +kernel
theorem dX3_readBy_0 : decode cX3_readBy 0 = .ok (.aload_n 0, 1) := by decide +kernel
theorem dX3_readBy_1 : decode cX3_readBy 1 = .ok (.iload_n 1, 1) := by decide +kernel
theorem dX3_readBy_2 : decode cX3_readBy 2 = .ok (.invokevirtual 63, 3) := by decide +kernel
theorem dX3_readBy_5 : decode cX3_readBy 5 = .ok (.ifCond .eq 12, 3) := by decide +kernel
theorem dX3_readBy_8 : decode cX3_readBy 8 = .ok (.aload_n 0, 1) := by decide +kernel
theorem dX3_readBy_9 : decode cX3_readBy 9 = .ok (.getfield 37, 3) := by decide +kernel
theorem dX3_readBy_12 : decode cX3_readBy 12 = .ok (.iload_n 1, 1) := by decide +kernel
theorem dX3_readBy_13 : decode cX3_readBy 13 = .ok (.iaload, 1) := by decide +kernel
theorem dX3_readBy_14 : decode cX3_readBy 14 = .ok (.goto 4, 3) := by decide +kernel
theorem dX3_readBy_17 : decode cX3_readBy 17 = .ok (.iconst 0, 1) := by decide +kernel
theorem dX3_readBy_18 : decode cX3_readBy 18 = .ok (.ireturn, 1) := by decide +kernel
theorem dX3_changeKind_0 : decode cX3_changeKind 0 = .ok (.aload_n 0, 1) := by decide +kernel
theorem dX3_changeKind_1 : decode cX3_changeKind 1 = .ok (.iload_n 1, 1) := by decide +kernel
theorem dX3_changeKind_2 : decode cX3_changeKind 2 = .ok (.invokevirtual 59, 3) := by decide +kernel
theorem dX3_changeKind_5 : decode cX3_changeKind 5 = .ok (.ifCond .eq 10, 3) := by decide +kernel
theorem dX3_changeKind_8 : decode cX3_changeKind 8 = .ok (.aload_n 0, 1) := by decide +kernel
theorem dX3_changeKind_9 : decode cX3_changeKind 9 = .ok (.getfield 15, 3) := by decide +kernel
theorem dX3_changeKind_12 : decode cX3_changeKind 12 = .ok (.iload_n 1, 1) := by decide +kernel
theorem dX3_changeKind_13 : decode cX3_changeKind 13 = .ok (.iload_n 2, 1) := by decide +kernel
theorem dX3_changeKind_14 : decode cX3_changeKind 14 = .ok (.iastore, 1) := by decide +kernel
theorem dX3_changeKind_15 : decode cX3_changeKind 15 = .ok (.return_, 1) := by decide +kernel
theorem dX3_changeNumber_0 : decode cX3_changeNumber 0 = .ok (.aload_n 0, 1) := by decide +kernel
theorem dX3_changeNumber_1 : decode cX3_changeNumber 1 = .ok (.iload_n 1, 1) := by decide +kernel
theorem dX3_changeNumber_2 : decode cX3_changeNumber 2 = .ok (.invokevirtual 59, 3) := by decide +kernel
theorem dX3_changeNumber_5 : decode cX3_changeNumber 5 = .ok (.ifCond .eq 10, 3) := by decide +kernel
theorem dX3_changeNumber_8 : decode cX3_changeNumber 8 = .ok (.aload_n 0, 1) := by decide +kernel
theorem dX3_changeNumber_9 : decode cX3_changeNumber 9 = .ok (.getfield 19, 3) := by decide +kernel
theorem dX3_changeNumber_12 : decode cX3_changeNumber 12 = .ok (.iload_n 1, 1) := by decide +kernel
theorem dX3_changeNumber_13 : decode cX3_changeNumber 13 = .ok (.iload_n 2, 1) := by decide +kernel
theorem dX3_changeNumber_14 : decode cX3_changeNumber 14 = .ok (.iastore, 1) := by decide +kernel
theorem dX3_changeNumber_15 : decode cX3_changeNumber 15 = .ok (.return_, 1) := by decide +kernel
theorem dX3_changeTone_0 : decode cX3_changeTone 0 = .ok (.aload_n 0, 1) := by decide +kernel
theorem dX3_changeTone_1 : decode cX3_changeTone 1 = .ok (.iload_n 1, 1) := by decide +kernel
theorem dX3_changeTone_2 : decode cX3_changeTone 2 = .ok (.invokevirtual 63, 3) := by decide +kernel
theorem dX3_changeTone_5 : decode cX3_changeTone 5 = .ok (.ifCond .eq 10, 3) := by decide +kernel
theorem dX3_changeTone_8 : decode cX3_changeTone 8 = .ok (.aload_n 0, 1) := by decide +kernel
theorem dX3_changeTone_9 : decode cX3_changeTone 9 = .ok (.getfield 34, 3) := by decide +kernel
theorem dX3_changeTone_12 : decode cX3_changeTone 12 = .ok (.iload_n 1, 1) := by decide +kernel
theorem dX3_changeTone_13 : decode cX3_changeTone 13 = .ok (.iload_n 2, 1) := by decide +kernel
theorem dX3_changeTone_14 : decode cX3_changeTone 14 = .ok (.iastore, 1) := by decide +kernel
theorem dX3_changeTone_15 : decode cX3_changeTone 15 = .ok (.return_, 1) := by decide +kernel
theorem dX3_moveTo_0 : decode cX3_moveTo 0 = .ok (.aload_n 0, 1) := by decide +kernel
theorem dX3_moveTo_1 : decode cX3_moveTo 1 = .ok (.iload_n 1, 1) := by decide +kernel
theorem dX3_moveTo_2 : decode cX3_moveTo 2 = .ok (.invokevirtual 59, 3) := by decide +kernel
theorem dX3_moveTo_5 : decode cX3_moveTo 5 = .ok (.ifCond .eq 10, 3) := by decide +kernel
theorem dX3_moveTo_8 : decode cX3_moveTo 8 = .ok (.aload_n 0, 1) := by decide +kernel
theorem dX3_moveTo_9 : decode cX3_moveTo 9 = .ok (.getfield 22, 3) := by decide +kernel
theorem dX3_moveTo_12 : decode cX3_moveTo 12 = .ok (.iload_n 1, 1) := by decide +kernel
theorem dX3_moveTo_13 : decode cX3_moveTo 13 = .ok (.iload_n 2, 1) := by decide +kernel
theorem dX3_moveTo_14 : decode cX3_moveTo 14 = .ok (.iastore, 1) := by decide +kernel
theorem dX3_moveTo_15 : decode cX3_moveTo 15 = .ok (.return_, 1) := by decide +kernel
theorem dX3_livesIn_0 : decode cX3_livesIn 0 = .ok (.iconst 0, 1) := by decide +kernel
theorem dX3_livesIn_1 : decode cX3_livesIn 1 = .ok (.istore_n 2, 1) := by decide +kernel
theorem dX3_livesIn_2 : decode cX3_livesIn 2 = .ok (.iload_n 2, 1) := by decide +kernel
theorem dX3_livesIn_3 : decode cX3_livesIn 3 = .ok (.aload_n 0, 1) := by decide +kernel
theorem dX3_livesIn_4 : decode cX3_livesIn 4 = .ok (.getfield 50, 3) := by decide +kernel
theorem dX3_livesIn_7 : decode cX3_livesIn 7 = .ok (.if_icmp .ge 26, 3) := by decide +kernel
theorem dX3_livesIn_10 : decode cX3_livesIn 10 = .ok (.iload_n 2, 1) := by decide +kernel
theorem dX3_livesIn_11 : decode cX3_livesIn 11 = .ok (.iconst 5, 1) := by decide +kernel
theorem dX3_livesIn_12 : decode cX3_livesIn 12 = .ok (.if_icmp .ge 21, 3) := by decide +kernel
theorem dX3_livesIn_15 : decode cX3_livesIn 15 = .ok (.aload_n 0, 1) := by decide +kernel
theorem dX3_livesIn_16 : decode cX3_livesIn 16 = .ok (.getfield 22, 3) := by decide +kernel
theorem dX3_livesIn_19 : decode cX3_livesIn 19 = .ok (.iload_n 2, 1) := by decide +kernel
theorem dX3_livesIn_20 : decode cX3_livesIn 20 = .ok (.iaload, 1) := by decide +kernel
theorem dX3_livesIn_21 : decode cX3_livesIn 21 = .ok (.iload_n 1, 1) := by decide +kernel
theorem dX3_livesIn_22 : decode cX3_livesIn 22 = .ok (.if_icmp .ne 5, 3) := by decide +kernel
theorem dX3_livesIn_25 : decode cX3_livesIn 25 = .ok (.iload_n 2, 1) := by decide +kernel
theorem dX3_livesIn_26 : decode cX3_livesIn 26 = .ok (.ireturn, 1) := by decide +kernel
theorem dX3_livesIn_27 : decode cX3_livesIn 27 = .ok (.iinc 2 1, 3) := by decide +kernel
theorem dX3_livesIn_30 : decode cX3_livesIn 30 = .ok (.goto (-28), 3) := by decide +kernel
theorem dX3_livesIn_33 : decode cX3_livesIn 33 = .ok (.iconst (-1), 1) := by decide +kernel
theorem dX3_livesIn_34 : decode cX3_livesIn 34 = .ok (.ireturn, 1) := by decide +kernel
theorem dX3_known_0 : decode cX3_known 0 = .ok (.iconst 0, 1) := by decide +kernel
theorem dX3_known_1 : decode cX3_known 1 = .ok (.istore_n 2, 1) := by decide +kernel
theorem dX3_known_2 : decode cX3_known 2 = .ok (.iconst 0, 1) := by decide +kernel
theorem dX3_known_3 : decode cX3_known 3 = .ok (.istore_n 3, 1) := by decide +kernel
theorem dX3_known_4 : decode cX3_known 4 = .ok (.iload_n 3, 1) := by decide +kernel
theorem dX3_known_5 : decode cX3_known 5 = .ok (.aload_n 0, 1) := by decide +kernel
theorem dX3_known_6 : decode cX3_known 6 = .ok (.getfield 53, 3) := by decide +kernel
theorem dX3_known_9 : decode cX3_known 9 = .ok (.if_icmp .ge 34, 3) := by decide +kernel
theorem dX3_known_12 : decode cX3_known 12 = .ok (.iload_n 3, 1) := by decide +kernel
theorem dX3_known_13 : decode cX3_known 13 = .ok (.bipush 8, 2) := by decide +kernel
theorem dX3_known_15 : decode cX3_known 15 = .ok (.if_icmp .ge 28, 3) := by decide +kernel
theorem dX3_known_18 : decode cX3_known 18 = .ok (.aload_n 0, 1) := by decide +kernel
theorem dX3_known_19 : decode cX3_known 19 = .ok (.getfield 37, 3) := by decide +kernel
theorem dX3_known_22 : decode cX3_known 22 = .ok (.iload_n 3, 1) := by decide +kernel
theorem dX3_known_23 : decode cX3_known 23 = .ok (.iaload, 1) := by decide +kernel
theorem dX3_known_24 : decode cX3_known 24 = .ok (.iload_n 1, 1) := by decide +kernel
theorem dX3_known_25 : decode cX3_known 25 = .ok (.ishr, 1) := by decide +kernel
theorem dX3_known_26 : decode cX3_known 26 = .ok (.iconst 1, 1) := by decide +kernel
theorem dX3_known_27 : decode cX3_known 27 = .ok (.iand, 1) := by decide +kernel
theorem dX3_known_28 : decode cX3_known 28 = .ok (.ifCond .eq 9, 3) := by decide +kernel
theorem dX3_known_31 : decode cX3_known 31 = .ok (.iload_n 2, 1) := by decide +kernel
theorem dX3_known_32 : decode cX3_known 32 = .ok (.iconst 1, 1) := by decide +kernel
theorem dX3_known_33 : decode cX3_known 33 = .ok (.iload_n 3, 1) := by decide +kernel
theorem dX3_known_34 : decode cX3_known 34 = .ok (.ishl, 1) := by decide +kernel
theorem dX3_known_35 : decode cX3_known 35 = .ok (.ior, 1) := by decide +kernel
theorem dX3_known_36 : decode cX3_known 36 = .ok (.istore_n 2, 1) := by decide +kernel
theorem dX3_known_37 : decode cX3_known 37 = .ok (.iinc 3 1, 3) := by decide +kernel
theorem dX3_known_40 : decode cX3_known 40 = .ok (.goto (-36), 3) := by decide +kernel
theorem dX3_known_43 : decode cX3_known 43 = .ok (.iload_n 2, 1) := by decide +kernel
theorem dX3_known_44 : decode cX3_known 44 = .ok (.ireturn, 1) := by decide +kernel
theorem dX3_homes_0 : decode cX3_homes 0 = .ok (.iconst 0, 1) := by decide +kernel
theorem dX3_homes_1 : decode cX3_homes 1 = .ok (.istore_n 1, 1) := by decide +kernel
theorem dX3_homes_2 : decode cX3_homes 2 = .ok (.iconst 0, 1) := by decide +kernel
theorem dX3_homes_3 : decode cX3_homes 3 = .ok (.istore_n 2, 1) := by decide +kernel
theorem dX3_homes_4 : decode cX3_homes 4 = .ok (.iload_n 2, 1) := by decide +kernel
theorem dX3_homes_5 : decode cX3_homes 5 = .ok (.aload_n 0, 1) := by decide +kernel
theorem dX3_homes_6 : decode cX3_homes 6 = .ok (.getfield 53, 3) := by decide +kernel
theorem dX3_homes_9 : decode cX3_homes 9 = .ok (.if_icmp .ge 28, 3) := by decide +kernel
theorem dX3_homes_12 : decode cX3_homes 12 = .ok (.iload_n 2, 1) := by decide +kernel
theorem dX3_homes_13 : decode cX3_homes 13 = .ok (.bipush 8, 2) := by decide +kernel
theorem dX3_homes_15 : decode cX3_homes 15 = .ok (.if_icmp .ge 22, 3) := by decide +kernel
theorem dX3_homes_18 : decode cX3_homes 18 = .ok (.aload_n 0, 1) := by decide +kernel
theorem dX3_homes_19 : decode cX3_homes 19 = .ok (.getfield 31, 3) := by decide +kernel
theorem dX3_homes_22 : decode cX3_homes 22 = .ok (.iload_n 2, 1) := by decide +kernel
theorem dX3_homes_23 : decode cX3_homes 23 = .ok (.iaload, 1) := by decide +kernel
theorem dX3_homes_24 : decode cX3_homes 24 = .ok (.iconst (-1), 1) := by decide +kernel
theorem dX3_homes_25 : decode cX3_homes 25 = .ok (.if_icmp .ne 6, 3) := by decide +kernel
theorem dX3_homes_28 : decode cX3_homes 28 = .ok (.iinc 1 1, 3) := by decide +kernel
theorem dX3_homes_31 : decode cX3_homes 31 = .ok (.iinc 2 1, 3) := by decide +kernel
theorem dX3_homes_34 : decode cX3_homes 34 = .ok (.goto (-30), 3) := by decide +kernel
theorem dX3_homes_37 : decode cX3_homes 37 = .ok (.iload_n 1, 1) := by decide +kernel
theorem dX3_homes_38 : decode cX3_homes 38 = .ok (.ireturn, 1) := by decide +kernel
theorem dX3_comesToLive_0 : decode cX3_comesToLive 0 = .ok (.aload_n 0, 1) := by decide +kernel
theorem dX3_comesToLive_1 : decode cX3_comesToLive 1 = .ok (.getfield 50, 3) := by decide +kernel
theorem dX3_comesToLive_4 : decode cX3_comesToLive 4 = .ok (.istore 4, 2) := by decide +kernel
theorem dX3_comesToLive_6 : decode cX3_comesToLive 6 = .ok (.iload 4, 2) := by decide +kernel
theorem dX3_comesToLive_8 : decode cX3_comesToLive 8 = .ok (.ifCond .lt 9, 3) := by decide +kernel
theorem dX3_comesToLive_11 : decode cX3_comesToLive 11 = .ok (.iload 4, 2) := by decide +kernel
theorem dX3_comesToLive_13 : decode cX3_comesToLive 13 = .ok (.iconst 5, 1) := by decide +kernel
theorem dX3_comesToLive_14 : decode cX3_comesToLive 14 = .ok (.if_icmp .lt 6, 3) := by decide +kernel
theorem dX3_comesToLive_17 : decode cX3_comesToLive 17 = .ok (.bipush (-4), 2) := by decide +kernel
theorem dX3_comesToLive_19 : decode cX3_comesToLive 19 = .ok (.ireturn, 1) := by decide +kernel
theorem dX3_comesToLive_20 : decode cX3_comesToLive 20 = .ok (.aload_n 0, 1) := by decide +kernel
theorem dX3_comesToLive_21 : decode cX3_comesToLive 21 = .ok (.getfield 15, 3) := by decide +kernel
theorem dX3_comesToLive_24 : decode cX3_comesToLive 24 = .ok (.iload 4, 2) := by decide +kernel
theorem dX3_comesToLive_26 : decode cX3_comesToLive 26 = .ok (.iload_n 1, 1) := by decide +kernel
theorem dX3_comesToLive_27 : decode cX3_comesToLive 27 = .ok (.iastore, 1) := by decide +kernel
theorem dX3_comesToLive_28 : decode cX3_comesToLive 28 = .ok (.aload_n 0, 1) := by decide +kernel
theorem dX3_comesToLive_29 : decode cX3_comesToLive 29 = .ok (.getfield 19, 3) := by decide +kernel
theorem dX3_comesToLive_32 : decode cX3_comesToLive 32 = .ok (.iload 4, 2) := by decide +kernel
theorem dX3_comesToLive_34 : decode cX3_comesToLive 34 = .ok (.iload_n 2, 1) := by decide +kernel
theorem dX3_comesToLive_35 : decode cX3_comesToLive 35 = .ok (.iastore, 1) := by decide +kernel
theorem dX3_comesToLive_36 : decode cX3_comesToLive 36 = .ok (.aload_n 0, 1) := by decide +kernel
theorem dX3_comesToLive_37 : decode cX3_comesToLive 37 = .ok (.getfield 22, 3) := by decide +kernel
theorem dX3_comesToLive_40 : decode cX3_comesToLive 40 = .ok (.iload 4, 2) := by decide +kernel
theorem dX3_comesToLive_42 : decode cX3_comesToLive 42 = .ok (.iload_n 3, 1) := by decide +kernel
theorem dX3_comesToLive_43 : decode cX3_comesToLive 43 = .ok (.iastore, 1) := by decide +kernel
theorem dX3_comesToLive_44 : decode cX3_comesToLive 44 = .ok (.aload_n 0, 1) := by decide +kernel
theorem dX3_comesToLive_45 : decode cX3_comesToLive 45 = .ok (.dup, 1) := by decide +kernel
theorem dX3_comesToLive_46 : decode cX3_comesToLive 46 = .ok (.getfield 50, 3) := by decide +kernel
theorem dX3_comesToLive_49 : decode cX3_comesToLive 49 = .ok (.iconst 1, 1) := by decide +kernel
theorem dX3_comesToLive_50 : decode cX3_comesToLive 50 = .ok (.iadd, 1) := by decide +kernel
theorem dX3_comesToLive_51 : decode cX3_comesToLive 51 = .ok (.putfield 50, 3) := by decide +kernel
theorem dX3_comesToLive_54 : decode cX3_comesToLive 54 = .ok (.iload 4, 2) := by decide +kernel
theorem dX3_comesToLive_56 : decode cX3_comesToLive 56 = .ok (.ireturn, 1) := by decide +kernel
theorem dX3_post_0 : decode cX3_post 0 = .ok (.aload_n 0, 1) := by decide +kernel
theorem dX3_post_1 : decode cX3_post 1 = .ok (.getfield 53, 3) := by decide +kernel
theorem dX3_post_4 : decode cX3_post 4 = .ok (.istore_n 3, 1) := by decide +kernel
theorem dX3_post_5 : decode cX3_post 5 = .ok (.iload_n 3, 1) := by decide +kernel
theorem dX3_post_6 : decode cX3_post 6 = .ok (.ifCond .lt 9, 3) := by decide +kernel
theorem dX3_post_9 : decode cX3_post 9 = .ok (.iload_n 3, 1) := by decide +kernel
theorem dX3_post_10 : decode cX3_post 10 = .ok (.bipush 8, 2) := by decide +kernel
theorem dX3_post_12 : decode cX3_post 12 = .ok (.if_icmp .lt 6, 3) := by decide +kernel
theorem dX3_post_15 : decode cX3_post 15 = .ok (.bipush (-4), 2) := by decide +kernel
theorem dX3_post_17 : decode cX3_post 17 = .ok (.ireturn, 1) := by decide +kernel
theorem dX3_post_18 : decode cX3_post 18 = .ok (.aload_n 0, 1) := by decide +kernel
theorem dX3_post_19 : decode cX3_post 19 = .ok (.getfield 25, 3) := by decide +kernel
theorem dX3_post_22 : decode cX3_post 22 = .ok (.iload_n 3, 1) := by decide +kernel
theorem dX3_post_23 : decode cX3_post 23 = .ok (.iload_n 1, 1) := by decide +kernel
theorem dX3_post_24 : decode cX3_post 24 = .ok (.iastore, 1) := by decide +kernel
theorem dX3_post_25 : decode cX3_post 25 = .ok (.aload_n 0, 1) := by decide +kernel
end
section
theorem dX3_post_26 : decode cX3_post 26 = .ok (.getfield 28, 3) := by decide +kernel
theorem dX3_post_29 : decode cX3_post 29 = .ok (.iload_n 3, 1) := by decide +kernel
theorem dX3_post_30 : decode cX3_post 30 = .ok (.iload_n 2, 1) := by decide +kernel
theorem dX3_post_31 : decode cX3_post 31 = .ok (.iastore, 1) := by decide +kernel
theorem dX3_post_32 : decode cX3_post 32 = .ok (.aload_n 0, 1) := by decide +kernel
theorem dX3_post_33 : decode cX3_post 33 = .ok (.getfield 31, 3) := by decide +kernel
theorem dX3_post_36 : decode cX3_post 36 = .ok (.iload_n 3, 1) := by decide +kernel
theorem dX3_post_37 : decode cX3_post 37 = .ok (.aload_n 0, 1) := by decide +kernel
theorem dX3_post_38 : decode cX3_post 38 = .ok (.iload_n 2, 1) := by decide +kernel
theorem dX3_post_39 : decode cX3_post 39 = .ok (.invokevirtual 66, 3) := by decide +kernel
theorem dX3_post_42 : decode cX3_post 42 = .ok (.aload_n 0, 1) := by decide +kernel
theorem dX3_post_43 : decode cX3_post 43 = .ok (.getfield 9, 3) := by decide +kernel
theorem dX3_post_46 : decode cX3_post 46 = .ok (.iadd, 1) := by decide +kernel
theorem dX3_post_47 : decode cX3_post 47 = .ok (.bipush 8, 2) := by decide +kernel
theorem dX3_post_49 : decode cX3_post 49 = .ok (.irem, 1) := by decide +kernel
theorem dX3_post_50 : decode cX3_post 50 = .ok (.iastore, 1) := by decide +kernel
theorem dX3_post_51 : decode cX3_post 51 = .ok (.aload_n 0, 1) := by decide +kernel
theorem dX3_post_52 : decode cX3_post 52 = .ok (.getfield 34, 3) := by decide +kernel
theorem dX3_post_55 : decode cX3_post 55 = .ok (.iload_n 3, 1) := by decide +kernel
theorem dX3_post_56 : decode cX3_post 56 = .ok (.aload_n 0, 1) := by decide +kernel
theorem dX3_post_57 : decode cX3_post 57 = .ok (.iload_n 1, 1) := by decide +kernel
theorem dX3_post_58 : decode cX3_post 58 = .ok (.invokevirtual 70, 3) := by decide +kernel
theorem dX3_post_61 : decode cX3_post 61 = .ok (.iastore, 1) := by decide +kernel
theorem dX3_post_62 : decode cX3_post 62 = .ok (.aload_n 0, 1) := by decide +kernel
theorem dX3_post_63 : decode cX3_post 63 = .ok (.getfield 37, 3) := by decide +kernel
theorem dX3_post_66 : decode cX3_post 66 = .ok (.iload_n 3, 1) := by decide +kernel
theorem dX3_post_67 : decode cX3_post 67 = .ok (.iconst 1, 1) := by decide +kernel
theorem dX3_post_68 : decode cX3_post 68 = .ok (.iload_n 1, 1) := by decide +kernel
theorem dX3_post_69 : decode cX3_post 69 = .ok (.ishl, 1) := by decide +kernel
theorem dX3_post_70 : decode cX3_post 70 = .ok (.iastore, 1) := by decide +kernel
theorem dX3_post_71 : decode cX3_post 71 = .ok (.aload_n 0, 1) := by decide +kernel
theorem dX3_post_72 : decode cX3_post 72 = .ok (.dup, 1) := by decide +kernel
theorem dX3_post_73 : decode cX3_post 73 = .ok (.getfield 53, 3) := by decide +kernel
theorem dX3_post_76 : decode cX3_post 76 = .ok (.iconst 1, 1) := by decide +kernel
theorem dX3_post_77 : decode cX3_post 77 = .ok (.iadd, 1) := by decide +kernel
theorem dX3_post_78 : decode cX3_post 78 = .ok (.putfield 53, 3) := by decide +kernel
theorem dX3_post_81 : decode cX3_post 81 = .ok (.iload_n 3, 1) := by decide +kernel
theorem dX3_post_82 : decode cX3_post 82 = .ok (.ireturn, 1) := by decide +kernel
theorem dX3_slipAll_0 : decode cX3_slipAll 0 = .ok (.iconst 0, 1) := by decide +kernel
theorem dX3_slipAll_1 : decode cX3_slipAll 1 = .ok (.istore_n 2, 1) := by decide +kernel
theorem dX3_slipAll_2 : decode cX3_slipAll 2 = .ok (.iload_n 2, 1) := by decide +kernel
theorem dX3_slipAll_3 : decode cX3_slipAll 3 = .ok (.aload_n 0, 1) := by decide +kernel
theorem dX3_slipAll_4 : decode cX3_slipAll 4 = .ok (.getfield 53, 3) := by decide +kernel
theorem dX3_slipAll_7 : decode cX3_slipAll 7 = .ok (.if_icmp .ge 46, 3) := by decide +kernel
theorem dX3_slipAll_10 : decode cX3_slipAll 10 = .ok (.iload_n 2, 1) := by decide +kernel
theorem dX3_slipAll_11 : decode cX3_slipAll 11 = .ok (.bipush 8, 2) := by decide +kernel
theorem dX3_slipAll_13 : decode cX3_slipAll 13 = .ok (.if_icmp .ge 40, 3) := by decide +kernel
theorem dX3_slipAll_16 : decode cX3_slipAll 16 = .ok (.aload_n 0, 1) := by decide +kernel
theorem dX3_slipAll_17 : decode cX3_slipAll 17 = .ok (.getfield 31, 3) := by decide +kernel
theorem dX3_slipAll_20 : decode cX3_slipAll 20 = .ok (.iload_n 2, 1) := by decide +kernel
theorem dX3_slipAll_21 : decode cX3_slipAll 21 = .ok (.iaload, 1) := by decide +kernel
theorem dX3_slipAll_22 : decode cX3_slipAll 22 = .ok (.iconst (-1), 1) := by decide +kernel
theorem dX3_slipAll_23 : decode cX3_slipAll 23 = .ok (.if_icmp .eq 24, 3) := by decide +kernel
theorem dX3_slipAll_26 : decode cX3_slipAll 26 = .ok (.aload_n 0, 1) := by decide +kernel
theorem dX3_slipAll_27 : decode cX3_slipAll 27 = .ok (.getfield 31, 3) := by decide +kernel
theorem dX3_slipAll_30 : decode cX3_slipAll 30 = .ok (.iload_n 2, 1) := by decide +kernel
theorem dX3_slipAll_31 : decode cX3_slipAll 31 = .ok (.aload_n 0, 1) := by decide +kernel
theorem dX3_slipAll_32 : decode cX3_slipAll 32 = .ok (.aload_n 0, 1) := by decide +kernel
theorem dX3_slipAll_33 : decode cX3_slipAll 33 = .ok (.getfield 28, 3) := by decide +kernel
theorem dX3_slipAll_36 : decode cX3_slipAll 36 = .ok (.iload_n 2, 1) := by decide +kernel
theorem dX3_slipAll_37 : decode cX3_slipAll 37 = .ok (.iaload, 1) := by decide +kernel
theorem dX3_slipAll_38 : decode cX3_slipAll 38 = .ok (.invokevirtual 66, 3) := by decide +kernel
theorem dX3_slipAll_41 : decode cX3_slipAll 41 = .ok (.iload_n 1, 1) := by decide +kernel
theorem dX3_slipAll_42 : decode cX3_slipAll 42 = .ok (.iadd, 1) := by decide +kernel
theorem dX3_slipAll_43 : decode cX3_slipAll 43 = .ok (.bipush 8, 2) := by decide +kernel
theorem dX3_slipAll_45 : decode cX3_slipAll 45 = .ok (.irem, 1) := by decide +kernel
theorem dX3_slipAll_46 : decode cX3_slipAll 46 = .ok (.iastore, 1) := by decide +kernel
theorem dX3_slipAll_47 : decode cX3_slipAll 47 = .ok (.iinc 2 1, 3) := by decide +kernel
theorem dX3_slipAll_50 : decode cX3_slipAll 50 = .ok (.goto (-48), 3) := by decide +kernel
theorem dX3_slipAll_53 : decode cX3_slipAll 53 = .ok (.return_, 1) := by decide +kernel
theorem dX3_passDay_0 : decode cX3_passDay 0 = .ok (.iconst 0, 1) := by decide +kernel
theorem dX3_passDay_1 : decode cX3_passDay 1 = .ok (.istore_n 1, 1) := by decide +kernel
theorem dX3_passDay_2 : decode cX3_passDay 2 = .ok (.iconst 0, 1) := by decide +kernel
theorem dX3_passDay_3 : decode cX3_passDay 3 = .ok (.istore_n 2, 1) := by decide +kernel
theorem dX3_passDay_4 : decode cX3_passDay 4 = .ok (.iload_n 2, 1) := by decide +kernel
theorem dX3_passDay_5 : decode cX3_passDay 5 = .ok (.aload_n 0, 1) := by decide +kernel
theorem dX3_passDay_6 : decode cX3_passDay 6 = .ok (.getfield 53, 3) := by decide +kernel
theorem dX3_passDay_9 : decode cX3_passDay 9 = .ok (.if_icmp .ge 29, 3) := by decide +kernel
theorem dX3_passDay_12 : decode cX3_passDay 12 = .ok (.iload_n 2, 1) := by decide +kernel
theorem dX3_passDay_13 : decode cX3_passDay 13 = .ok (.bipush 8, 2) := by decide +kernel
theorem dX3_passDay_15 : decode cX3_passDay 15 = .ok (.if_icmp .ge 23, 3) := by decide +kernel
theorem dX3_passDay_18 : decode cX3_passDay 18 = .ok (.aload_n 0, 1) := by decide +kernel
theorem dX3_passDay_19 : decode cX3_passDay 19 = .ok (.iload_n 2, 1) := by decide +kernel
theorem dX3_passDay_20 : decode cX3_passDay 20 = .ok (.invokevirtual 73, 3) := by decide +kernel
theorem dX3_passDay_23 : decode cX3_passDay 23 = .ok (.ifCond .eq 9, 3) := by decide +kernel
theorem dX3_passDay_26 : decode cX3_passDay 26 = .ok (.iload_n 1, 1) := by decide +kernel
theorem dX3_passDay_27 : decode cX3_passDay 27 = .ok (.iconst 1, 1) := by decide +kernel
theorem dX3_passDay_28 : decode cX3_passDay 28 = .ok (.iload_n 2, 1) := by decide +kernel
theorem dX3_passDay_29 : decode cX3_passDay 29 = .ok (.ishl, 1) := by decide +kernel
theorem dX3_passDay_30 : decode cX3_passDay 30 = .ok (.ior, 1) := by decide +kernel
theorem dX3_passDay_31 : decode cX3_passDay 31 = .ok (.istore_n 1, 1) := by decide +kernel
theorem dX3_passDay_32 : decode cX3_passDay 32 = .ok (.iinc 2 1, 3) := by decide +kernel
theorem dX3_passDay_35 : decode cX3_passDay 35 = .ok (.goto (-31), 3) := by decide +kernel
theorem dX3_passDay_38 : decode cX3_passDay 38 = .ok (.aload_n 0, 1) := by decide +kernel
theorem dX3_passDay_39 : decode cX3_passDay 39 = .ok (.dup, 1) := by decide +kernel
theorem dX3_passDay_40 : decode cX3_passDay 40 = .ok (.getfield 44, 3) := by decide +kernel
theorem dX3_passDay_43 : decode cX3_passDay 43 = .ok (.iconst 1, 1) := by decide +kernel
theorem dX3_passDay_44 : decode cX3_passDay 44 = .ok (.iadd, 1) := by decide +kernel
theorem dX3_passDay_45 : decode cX3_passDay 45 = .ok (.putfield 44, 3) := by decide +kernel
theorem dX3_passDay_48 : decode cX3_passDay 48 = .ok (.iload_n 1, 1) := by decide +kernel
theorem dX3_passDay_49 : decode cX3_passDay 49 = .ok (.ireturn, 1) := by decide +kernel
theorem dX3_passDays_0 : decode cX3_passDays 0 = .ok (.iconst 0, 1) := by decide +kernel
theorem dX3_passDays_1 : decode cX3_passDays 1 = .ok (.istore_n 2, 1) := by decide +kernel
theorem dX3_passDays_2 : decode cX3_passDays 2 = .ok (.iload_n 2, 1) := by decide +kernel
theorem dX3_passDays_3 : decode cX3_passDays 3 = .ok (.iload_n 1, 1) := by decide +kernel
theorem dX3_passDays_4 : decode cX3_passDays 4 = .ok (.if_icmp .ge 14, 3) := by decide +kernel
theorem dX3_passDays_7 : decode cX3_passDays 7 = .ok (.aload_n 0, 1) := by decide +kernel
theorem dX3_passDays_8 : decode cX3_passDays 8 = .ok (.invokevirtual 76, 3) := by decide +kernel
theorem dX3_passDays_11 : decode cX3_passDays 11 = .ok (.pop, 1) := by decide +kernel
theorem dX3_passDays_12 : decode cX3_passDays 12 = .ok (.iinc 2 1, 3) := by decide +kernel
theorem dX3_passDays_15 : decode cX3_passDays 15 = .ok (.goto (-13), 3) := by decide +kernel
theorem dX3_passDays_18 : decode cX3_passDays 18 = .ok (.return_, 1) := by decide +kernel
theorem dX3_passDayOf_0 : decode cX3_passDayOf 0 = .ok (.aload_n 0, 1) := by decide +kernel
theorem dX3_passDayOf_1 : decode cX3_passDayOf 1 = .ok (.iload_n 1, 1) := by decide +kernel
theorem dX3_passDayOf_2 : decode cX3_passDayOf 2 = .ok (.invokevirtual 73, 3) := by decide +kernel
theorem dX3_passDayOf_5 : decode cX3_passDayOf 5 = .ok (.pop, 1) := by decide +kernel
theorem dX3_passDayOf_6 : decode cX3_passDayOf 6 = .ok (.aload_n 0, 1) := by decide +kernel
theorem dX3_passDayOf_7 : decode cX3_passDayOf 7 = .ok (.dup, 1) := by decide +kernel
theorem dX3_passDayOf_8 : decode cX3_passDayOf 8 = .ok (.getfield 44, 3) := by decide +kernel
theorem dX3_passDayOf_11 : decode cX3_passDayOf 11 = .ok (.iconst 1, 1) := by decide +kernel
theorem dX3_passDayOf_12 : decode cX3_passDayOf 12 = .ok (.iadd, 1) := by decide +kernel
theorem dX3_passDayOf_13 : decode cX3_passDayOf 13 = .ok (.putfield 44, 3) := by decide +kernel
theorem dX3_passDayOf_16 : decode cX3_passDayOf 16 = .ok (.return_, 1) := by decide +kernel
theorem dX3_readBehind_0 : decode cX3_readBehind 0 = .ok (.iconst 0, 1) := by decide +kernel
theorem dX3_readBehind_1 : decode cX3_readBehind 1 = .ok (.istore_n 3, 1) := by decide +kernel
theorem dX3_readBehind_2 : decode cX3_readBehind 2 = .ok (.iload_n 3, 1) := by decide +kernel
theorem dX3_readBehind_3 : decode cX3_readBehind 3 = .ok (.iload_n 2, 1) := by decide +kernel
theorem dX3_readBehind_4 : decode cX3_readBehind 4 = .ok (.if_icmp .ge 14, 3) := by decide +kernel
theorem dX3_readBehind_7 : decode cX3_readBehind 7 = .ok (.aload_n 0, 1) := by decide +kernel
theorem dX3_readBehind_8 : decode cX3_readBehind 8 = .ok (.iload_n 1, 1) := by decide +kernel
theorem dX3_readBehind_9 : decode cX3_readBehind 9 = .ok (.invokevirtual 80, 3) := by decide +kernel
theorem dX3_readBehind_12 : decode cX3_readBehind 12 = .ok (.iinc 3 1, 3) := by decide +kernel
theorem dX3_readBehind_15 : decode cX3_readBehind 15 = .ok (.goto (-13), 3) := by decide +kernel
theorem dX3_readBehind_18 : decode cX3_readBehind 18 = .ok (.aload_n 0, 1) := by decide +kernel
theorem dX3_readBehind_19 : decode cX3_readBehind 19 = .ok (.iload_n 1, 1) := by decide +kernel
theorem dX3_readBehind_20 : decode cX3_readBehind 20 = .ok (.invokevirtual 84, 3) := by decide +kernel
theorem dX3_readBehind_23 : decode cX3_readBehind 23 = .ok (.ireturn, 1) := by decide +kernel
theorem dX3_firstOtherwise_0 : decode cX3_firstOtherwise 0 = .ok (.iconst 0, 1) := by decide +kernel
theorem dX3_firstOtherwise_1 : decode cX3_firstOtherwise 1 = .ok (.istore_n 3, 1) := by decide +kernel
theorem dX3_firstOtherwise_2 : decode cX3_firstOtherwise 2 = .ok (.iload_n 3, 1) := by decide +kernel
theorem dX3_firstOtherwise_3 : decode cX3_firstOtherwise 3 = .ok (.aload_n 1, 1) := by decide +kernel
theorem dX3_firstOtherwise_4 : decode cX3_firstOtherwise 4 = .ok (.getfield 87, 3) := by decide +kernel
theorem dX3_firstOtherwise_7 : decode cX3_firstOtherwise 7 = .ok (.if_icmp .ge 40, 3) := by decide +kernel
theorem dX3_firstOtherwise_10 : decode cX3_firstOtherwise 10 = .ok (.aload_n 0, 1) := by decide +kernel
theorem dX3_firstOtherwise_11 : decode cX3_firstOtherwise 11 = .ok (.iload_n 2, 1) := by decide +kernel
theorem dX3_firstOtherwise_12 : decode cX3_firstOtherwise 12 = .ok (.invokevirtual 73, 3) := by decide +kernel
theorem dX3_firstOtherwise_15 : decode cX3_firstOtherwise 15 = .ok (.pop, 1) := by decide +kernel
theorem dX3_firstOtherwise_16 : decode cX3_firstOtherwise 16 = .ok (.aload_n 0, 1) := by decide +kernel
theorem dX3_firstOtherwise_17 : decode cX3_firstOtherwise 17 = .ok (.dup, 1) := by decide +kernel
theorem dX3_firstOtherwise_18 : decode cX3_firstOtherwise 18 = .ok (.getfield 44, 3) := by decide +kernel
theorem dX3_firstOtherwise_21 : decode cX3_firstOtherwise 21 = .ok (.iconst 1, 1) := by decide +kernel
theorem dX3_firstOtherwise_22 : decode cX3_firstOtherwise 22 = .ok (.iadd, 1) := by decide +kernel
theorem dX3_firstOtherwise_23 : decode cX3_firstOtherwise 23 = .ok (.putfield 44, 3) := by decide +kernel
theorem dX3_firstOtherwise_26 : decode cX3_firstOtherwise 26 = .ok (.aload_n 0, 1) := by decide +kernel
theorem dX3_firstOtherwise_27 : decode cX3_firstOtherwise 27 = .ok (.iload_n 2, 1) := by decide +kernel
theorem dX3_firstOtherwise_28 : decode cX3_firstOtherwise 28 = .ok (.invokevirtual 92, 3) := by decide +kernel
theorem dX3_firstOtherwise_31 : decode cX3_firstOtherwise 31 = .ok (.aload_n 1, 1) := by decide +kernel
theorem dX3_firstOtherwise_32 : decode cX3_firstOtherwise 32 = .ok (.iload_n 3, 1) := by decide +kernel
theorem dX3_firstOtherwise_33 : decode cX3_firstOtherwise 33 = .ok (.invokevirtual 95, 3) := by decide +kernel
theorem dX3_firstOtherwise_36 : decode cX3_firstOtherwise 36 = .ok (.if_icmp .eq 5, 3) := by decide +kernel
theorem dX3_firstOtherwise_39 : decode cX3_firstOtherwise 39 = .ok (.iload_n 3, 1) := by decide +kernel
theorem dX3_firstOtherwise_40 : decode cX3_firstOtherwise 40 = .ok (.ireturn, 1) := by decide +kernel
theorem dX3_firstOtherwise_41 : decode cX3_firstOtherwise 41 = .ok (.iinc 3 1, 3) := by decide +kernel
theorem dX3_firstOtherwise_44 : decode cX3_firstOtherwise 44 = .ok (.goto (-42), 3) := by decide +kernel
theorem dX3_firstOtherwise_47 : decode cX3_firstOtherwise 47 = .ok (.iconst (-1), 1) := by decide +kernel
theorem dX3_firstOtherwise_48 : decode cX3_firstOtherwise 48 = .ok (.ireturn, 1) := by decide +kernel
theorem dX3_goesDown_0 : decode cX3_goesDown 0 = .ok (.aload_n 0, 1) := by decide +kernel
theorem dX3_goesDown_1 : decode cX3_goesDown 1 = .ok (.iload_n 1, 1) := by decide +kernel
theorem dX3_goesDown_2 : decode cX3_goesDown 2 = .ok (.invokevirtual 63, 3) := by decide +kernel
theorem dX3_goesDown_5 : decode cX3_goesDown 5 = .ok (.ifCond .eq 13, 3) := by decide +kernel
theorem dX3_goesDown_8 : decode cX3_goesDown 8 = .ok (.aload_n 0, 1) := by decide +kernel
theorem dX3_goesDown_9 : decode cX3_goesDown 9 = .ok (.getfield 31, 3) := by decide +kernel
theorem dX3_goesDown_12 : decode cX3_goesDown 12 = .ok (.iload_n 1, 1) := by decide +kernel
theorem dX3_goesDown_13 : decode cX3_goesDown 13 = .ok (.iaload, 1) := by decide +kernel
theorem dX3_goesDown_14 : decode cX3_goesDown 14 = .ok (.iconst (-1), 1) := by decide +kernel
theorem dX3_goesDown_15 : decode cX3_goesDown 15 = .ok (.if_icmp .ne 5, 3) := by decide +kernel
theorem dX3_goesDown_18 : decode cX3_goesDown 18 = .ok (.iconst 0, 1) := by decide +kernel
theorem dX3_goesDown_19 : decode cX3_goesDown 19 = .ok (.ireturn, 1) := by decide +kernel
theorem dX3_goesDown_20 : decode cX3_goesDown 20 = .ok (.aload_n 0, 1) := by decide +kernel
theorem dX3_goesDown_21 : decode cX3_goesDown 21 = .ok (.aload_n 0, 1) := by decide +kernel
theorem dX3_goesDown_22 : decode cX3_goesDown 22 = .ok (.getfield 31, 3) := by decide +kernel
theorem dX3_goesDown_25 : decode cX3_goesDown 25 = .ok (.iload_n 1, 1) := by decide +kernel
theorem dX3_goesDown_26 : decode cX3_goesDown 26 = .ok (.iaload, 1) := by decide +kernel
theorem dX3_goesDown_27 : decode cX3_goesDown 27 = .ok (.invokevirtual 98, 3) := by decide +kernel
theorem dX3_goesDown_30 : decode cX3_goesDown 30 = .ok (.istore_n 2, 1) := by decide +kernel
theorem dX3_goesDown_31 : decode cX3_goesDown 31 = .ok (.iload_n 2, 1) := by decide +kernel
theorem dX3_goesDown_32 : decode cX3_goesDown 32 = .ok (.iconst (-1), 1) := by decide +kernel
theorem dX3_goesDown_33 : decode cX3_goesDown 33 = .ok (.if_icmp .eq 68, 3) := by decide +kernel
theorem dX3_goesDown_36 : decode cX3_goesDown 36 = .ok (.aload_n 0, 1) := by decide +kernel
theorem dX3_goesDown_37 : decode cX3_goesDown 37 = .ok (.getfield 37, 3) := by decide +kernel
theorem dX3_goesDown_40 : decode cX3_goesDown 40 = .ok (.iload_n 1, 1) := by decide +kernel
theorem dX3_goesDown_41 : decode cX3_goesDown 41 = .ok (.dup2, 1) := by decide +kernel
theorem dX3_goesDown_42 : decode cX3_goesDown 42 = .ok (.iaload, 1) := by decide +kernel
theorem dX3_goesDown_43 : decode cX3_goesDown 43 = .ok (.iconst 1, 1) := by decide +kernel
theorem dX3_goesDown_44 : decode cX3_goesDown 44 = .ok (.iload_n 2, 1) := by decide +kernel
theorem dX3_goesDown_45 : decode cX3_goesDown 45 = .ok (.ishl, 1) := by decide +kernel
theorem dX3_goesDown_46 : decode cX3_goesDown 46 = .ok (.ior, 1) := by decide +kernel
theorem dX3_goesDown_47 : decode cX3_goesDown 47 = .ok (.iastore, 1) := by decide +kernel
theorem dX3_goesDown_48 : decode cX3_goesDown 48 = .ok (.iload_n 2, 1) := by decide +kernel
theorem dX3_goesDown_49 : decode cX3_goesDown 49 = .ok (.aload_n 0, 1) := by decide +kernel
theorem dX3_goesDown_50 : decode cX3_goesDown 50 = .ok (.getfield 28, 3) := by decide +kernel
theorem dX3_goesDown_53 : decode cX3_goesDown 53 = .ok (.iload_n 1, 1) := by decide +kernel
theorem dX3_goesDown_54 : decode cX3_goesDown 54 = .ok (.iaload, 1) := by decide +kernel
theorem dX3_goesDown_55 : decode cX3_goesDown 55 = .ok (.if_icmp .ne 12, 3) := by decide +kernel
theorem dX3_goesDown_58 : decode cX3_goesDown 58 = .ok (.aload_n 0, 1) := by decide +kernel
theorem dX3_goesDown_59 : decode cX3_goesDown 59 = .ok (.getfield 31, 3) := by decide +kernel
theorem dX3_goesDown_62 : decode cX3_goesDown 62 = .ok (.iload_n 1, 1) := by decide +kernel
theorem dX3_goesDown_63 : decode cX3_goesDown 63 = .ok (.iconst (-1), 1) := by decide +kernel
theorem dX3_goesDown_64 : decode cX3_goesDown 64 = .ok (.iastore, 1) := by decide +kernel
theorem dX3_goesDown_65 : decode cX3_goesDown 65 = .ok (.iconst 1, 1) := by decide +kernel
theorem dX3_goesDown_66 : decode cX3_goesDown 66 = .ok (.ireturn, 1) := by decide +kernel
theorem dX3_goesDown_67 : decode cX3_goesDown 67 = .ok (.aload_n 0, 1) := by decide +kernel
theorem dX3_goesDown_68 : decode cX3_goesDown 68 = .ok (.iload_n 2, 1) := by decide +kernel
theorem dX3_goesDown_69 : decode cX3_goesDown 69 = .ok (.iload_n 1, 1) := by decide +kernel
theorem dX3_goesDown_70 : decode cX3_goesDown 70 = .ok (.invokevirtual 101, 3) := by decide +kernel
theorem dX3_goesDown_73 : decode cX3_goesDown 73 = .ok (.ifCond .ne 5, 3) := by decide +kernel
theorem dX3_goesDown_76 : decode cX3_goesDown 76 = .ok (.iconst 0, 1) := by decide +kernel
theorem dX3_goesDown_77 : decode cX3_goesDown 77 = .ok (.ireturn, 1) := by decide +kernel
theorem dX3_goesDown_78 : decode cX3_goesDown 78 = .ok (.aload_n 0, 1) := by decide +kernel
theorem dX3_goesDown_79 : decode cX3_goesDown 79 = .ok (.getfield 34, 3) := by decide +kernel
theorem dX3_goesDown_82 : decode cX3_goesDown 82 = .ok (.iload_n 1, 1) := by decide +kernel
theorem dX3_goesDown_83 : decode cX3_goesDown 83 = .ok (.aload_n 0, 1) := by decide +kernel
theorem dX3_goesDown_84 : decode cX3_goesDown 84 = .ok (.getfield 34, 3) := by decide +kernel
theorem dX3_goesDown_87 : decode cX3_goesDown 87 = .ok (.iload_n 1, 1) := by decide +kernel
theorem dX3_goesDown_88 : decode cX3_goesDown 88 = .ok (.iaload, 1) := by decide +kernel
theorem dX3_goesDown_89 : decode cX3_goesDown 89 = .ok (.aload_n 0, 1) := by decide +kernel
theorem dX3_goesDown_90 : decode cX3_goesDown 90 = .ok (.iload_n 2, 1) := by decide +kernel
theorem dX3_goesDown_91 : decode cX3_goesDown 91 = .ok (.iload_n 1, 1) := by decide +kernel
theorem dX3_goesDown_92 : decode cX3_goesDown 92 = .ok (.invokevirtual 105, 3) := by decide +kernel
theorem dX3_goesDown_95 : decode cX3_goesDown 95 = .ok (.isub, 1) := by decide +kernel
theorem dX3_goesDown_96 : decode cX3_goesDown 96 = .ok (.iconst 0, 1) := by decide +kernel
theorem dX3_goesDown_97 : decode cX3_goesDown 97 = .ok (.invokestatic 109, 3) := by decide +kernel
theorem dX3_goesDown_100 : decode cX3_goesDown 100 = .ok (.iastore, 1) := by decide +kernel
theorem dX3_goesDown_101 : decode cX3_goesDown 101 = .ok (.aload_n 0, 1) := by decide +kernel
theorem dX3_goesDown_102 : decode cX3_goesDown 102 = .ok (.getfield 31, 3) := by decide +kernel
theorem dX3_goesDown_105 : decode cX3_goesDown 105 = .ok (.iload_n 1, 1) := by decide +kernel
theorem dX3_goesDown_106 : decode cX3_goesDown 106 = .ok (.aload_n 0, 1) := by decide +kernel
theorem dX3_goesDown_107 : decode cX3_goesDown 107 = .ok (.getfield 31, 3) := by decide +kernel
theorem dX3_goesDown_110 : decode cX3_goesDown 110 = .ok (.iload_n 1, 1) := by decide +kernel
theorem dX3_goesDown_111 : decode cX3_goesDown 111 = .ok (.iaload, 1) := by decide +kernel
theorem dX3_goesDown_112 : decode cX3_goesDown 112 = .ok (.bipush 8, 2) := by decide +kernel
theorem dX3_goesDown_114 : decode cX3_goesDown 114 = .ok (.iadd, 1) := by decide +kernel
theorem dX3_goesDown_115 : decode cX3_goesDown 115 = .ok (.iconst 1, 1) := by decide +kernel
theorem dX3_goesDown_116 : decode cX3_goesDown 116 = .ok (.isub, 1) := by decide +kernel
theorem dX3_goesDown_117 : decode cX3_goesDown 117 = .ok (.bipush 8, 2) := by decide +kernel
theorem dX3_goesDown_119 : decode cX3_goesDown 119 = .ok (.irem, 1) := by decide +kernel
theorem dX3_goesDown_120 : decode cX3_goesDown 120 = .ok (.iastore, 1) := by decide +kernel
theorem dX3_goesDown_121 : decode cX3_goesDown 121 = .ok (.iconst 0, 1) := by decide +kernel
theorem dX3_goesDown_122 : decode cX3_goesDown 122 = .ok (.ireturn, 1) := by decide +kernel
theorem dX3_carries_0 : decode cX3_carries 0 = .ok (.aload_n 0, 1) := by decide +kernel
theorem dX3_carries_1 : decode cX3_carries 1 = .ok (.iload_n 1, 1) := by decide +kernel
theorem dX3_carries_2 : decode cX3_carries 2 = .ok (.invokevirtual 59, 3) := by decide +kernel
theorem dX3_carries_5 : decode cX3_carries 5 = .ok (.ifCond .eq 22, 3) := by decide +kernel
theorem dX3_carries_8 : decode cX3_carries 8 = .ok (.aload_n 0, 1) := by decide +kernel
theorem dX3_carries_9 : decode cX3_carries 9 = .ok (.iload_n 2, 1) := by decide +kernel
theorem dX3_carries_10 : decode cX3_carries 10 = .ok (.invokevirtual 63, 3) := by decide +kernel
theorem dX3_carries_13 : decode cX3_carries 13 = .ok (.ifCond .eq 14, 3) := by decide +kernel
theorem dX3_carries_16 : decode cX3_carries 16 = .ok (.aload_n 0, 1) := by decide +kernel
theorem dX3_carries_17 : decode cX3_carries 17 = .ok (.getfield 56, 3) := by decide +kernel
theorem dX3_carries_20 : decode cX3_carries 20 = .ok (.iload_n 1, 1) := by decide +kernel
theorem dX3_carries_21 : decode cX3_carries 21 = .ok (.ishr, 1) := by decide +kernel
theorem dX3_carries_22 : decode cX3_carries 22 = .ok (.iconst 1, 1) := by decide +kernel
theorem dX3_carries_23 : decode cX3_carries 23 = .ok (.iand, 1) := by decide +kernel
theorem dX3_carries_24 : decode cX3_carries 24 = .ok (.ifCond .eq 5, 3) := by decide +kernel
theorem dX3_carries_27 : decode cX3_carries 27 = .ok (.iconst 0, 1) := by decide +kernel
theorem dX3_carries_28 : decode cX3_carries 28 = .ok (.ireturn, 1) := by decide +kernel
theorem dX3_carries_29 : decode cX3_carries 29 = .ok (.aload_n 0, 1) := by decide +kernel
theorem dX3_carries_30 : decode cX3_carries 30 = .ok (.iconst 0, 1) := by decide +kernel
theorem dX3_carries_31 : decode cX3_carries 31 = .ok (.iload_n 1, 1) := by decide +kernel
theorem dX3_carries_32 : decode cX3_carries 32 = .ok (.iload_n 2, 1) := by decide +kernel
theorem dX3_carries_33 : decode cX3_carries 33 = .ok (.invokevirtual 114, 3) := by decide +kernel
theorem dX3_carries_36 : decode cX3_carries 36 = .ok (.ifCond .eq 7, 3) := by decide +kernel
theorem dX3_carries_39 : decode cX3_carries 39 = .ok (.iconst 1, 1) := by decide +kernel
theorem dX3_carries_40 : decode cX3_carries 40 = .ok (.goto 4, 3) := by decide +kernel
theorem dX3_carries_43 : decode cX3_carries 43 = .ok (.iconst 0, 1) := by decide +kernel
theorem dX3_carries_44 : decode cX3_carries 44 = .ok (.istore_n 3, 1) := by decide +kernel
theorem dX3_carries_45 : decode cX3_carries 45 = .ok (.iload_n 3, 1) := by decide +kernel
theorem dX3_carries_46 : decode cX3_carries 46 = .ok (.ifCond .ne 14, 3) := by decide +kernel
theorem dX3_carries_49 : decode cX3_carries 49 = .ok (.aload_n 0, 1) := by decide +kernel
theorem dX3_carries_50 : decode cX3_carries 50 = .ok (.getfield 34, 3) := by decide +kernel
theorem dX3_carries_53 : decode cX3_carries 53 = .ok (.iload_n 2, 1) := by decide +kernel
theorem dX3_carries_54 : decode cX3_carries 54 = .ok (.iaload, 1) := by decide +kernel
theorem dX3_carries_55 : decode cX3_carries 55 = .ok (.bipush 50, 2) := by decide +kernel
theorem dX3_carries_57 : decode cX3_carries 57 = .ok (.if_icmp .lt 7, 3) := by decide +kernel
theorem dX3_carries_60 : decode cX3_carries 60 = .ok (.iconst 1, 1) := by decide +kernel
theorem dX3_carries_61 : decode cX3_carries 61 = .ok (.goto 4, 3) := by decide +kernel
theorem dX3_carries_64 : decode cX3_carries 64 = .ok (.iconst 0, 1) := by decide +kernel
theorem dX3_carries_65 : decode cX3_carries 65 = .ok (.istore 4, 2) := by decide +kernel
theorem dX3_carries_67 : decode cX3_carries 67 = .ok (.iload_n 3, 1) := by decide +kernel
theorem dX3_carries_68 : decode cX3_carries 68 = .ok (.ifCond .eq 17, 3) := by decide +kernel
theorem dX3_carries_71 : decode cX3_carries 71 = .ok (.aload_n 0, 1) := by decide +kernel
theorem dX3_carries_72 : decode cX3_carries 72 = .ok (.getfield 25, 3) := by decide +kernel
theorem dX3_carries_75 : decode cX3_carries 75 = .ok (.iload_n 2, 1) := by decide +kernel
theorem dX3_carries_76 : decode cX3_carries 76 = .ok (.iaload, 1) := by decide +kernel
theorem dX3_carries_77 : decode cX3_carries 77 = .ok (.iload_n 1, 1) := by decide +kernel
theorem dX3_carries_78 : decode cX3_carries 78 = .ok (.if_icmp .eq 7, 3) := by decide +kernel
theorem dX3_carries_81 : decode cX3_carries 81 = .ok (.iconst 1, 1) := by decide +kernel
theorem dX3_carries_82 : decode cX3_carries 82 = .ok (.goto 4, 3) := by decide +kernel
theorem dX3_carries_85 : decode cX3_carries 85 = .ok (.iconst 0, 1) := by decide +kernel
theorem dX3_carries_86 : decode cX3_carries 86 = .ok (.istore 5, 2) := by decide +kernel
theorem dX3_carries_88 : decode cX3_carries 88 = .ok (.aload_n 0, 1) := by decide +kernel
theorem dX3_carries_89 : decode cX3_carries 89 = .ok (.getfield 15, 3) := by decide +kernel
theorem dX3_carries_92 : decode cX3_carries 92 = .ok (.iload_n 1, 1) := by decide +kernel
theorem dX3_carries_93 : decode cX3_carries 93 = .ok (.iaload, 1) := by decide +kernel
theorem dX3_carries_94 : decode cX3_carries 94 = .ok (.tableswitch 90 1 5 #[34, 37, 40, 67, 88], 34) := by decide +kernel
theorem dX3_carries_128 : decode cX3_carries 128 = .ok (.iload 4, 2) := by decide +kernel
theorem dX3_carries_130 : decode cX3_carries 130 = .ok (.ireturn, 1) := by decide +kernel
theorem dX3_carries_131 : decode cX3_carries 131 = .ok (.iload 5, 2) := by decide +kernel
theorem dX3_carries_133 : decode cX3_carries 133 = .ok (.ireturn, 1) := by decide +kernel
theorem dX3_carries_134 : decode cX3_carries 134 = .ok (.iload 4, 2) := by decide +kernel
theorem dX3_carries_136 : decode cX3_carries 136 = .ok (.ifCond .eq 23, 3) := by decide +kernel
theorem dX3_carries_139 : decode cX3_carries 139 = .ok (.aload_n 0, 1) := by decide +kernel
theorem dX3_carries_140 : decode cX3_carries 140 = .ok (.getfield 44, 3) := by decide +kernel
theorem dX3_carries_143 : decode cX3_carries 143 = .ok (.bipush 7, 2) := by decide +kernel
theorem dX3_carries_145 : decode cX3_carries 145 = .ok (.irem, 1) := by decide +kernel
theorem dX3_carries_146 : decode cX3_carries 146 = .ok (.aload_n 0, 1) := by decide +kernel
theorem dX3_carries_147 : decode cX3_carries 147 = .ok (.getfield 19, 3) := by decide +kernel
theorem dX3_carries_150 : decode cX3_carries 150 = .ok (.iload_n 1, 1) := by decide +kernel
theorem dX3_carries_151 : decode cX3_carries 151 = .ok (.iaload, 1) := by decide +kernel
theorem dX3_carries_152 : decode cX3_carries 152 = .ok (.if_icmp .eq 7, 3) := by decide +kernel
theorem dX3_carries_155 : decode cX3_carries 155 = .ok (.iconst 1, 1) := by decide +kernel
theorem dX3_carries_156 : decode cX3_carries 156 = .ok (.goto 4, 3) := by decide +kernel
theorem dX3_carries_159 : decode cX3_carries 159 = .ok (.iconst 0, 1) := by decide +kernel
theorem dX3_carries_160 : decode cX3_carries 160 = .ok (.ireturn, 1) := by decide +kernel
theorem dX3_carries_161 : decode cX3_carries 161 = .ok (.iload 5, 2) := by decide +kernel
theorem dX3_carries_163 : decode cX3_carries 163 = .ok (.ifCond .eq 17, 3) := by decide +kernel
theorem dX3_carries_166 : decode cX3_carries 166 = .ok (.aload_n 0, 1) := by decide +kernel
theorem dX3_carries_167 : decode cX3_carries 167 = .ok (.getfield 19, 3) := by decide +kernel
theorem dX3_carries_170 : decode cX3_carries 170 = .ok (.iload_n 1, 1) := by decide +kernel
theorem dX3_carries_171 : decode cX3_carries 171 = .ok (.iaload, 1) := by decide +kernel
theorem dX3_carries_172 : decode cX3_carries 172 = .ok (.iconst 4, 1) := by decide +kernel
theorem dX3_carries_173 : decode cX3_carries 173 = .ok (.if_icmp .gt 7, 3) := by decide +kernel
theorem dX3_carries_176 : decode cX3_carries 176 = .ok (.iconst 1, 1) := by decide +kernel
theorem dX3_carries_177 : decode cX3_carries 177 = .ok (.goto 4, 3) := by decide +kernel
theorem dX3_carries_180 : decode cX3_carries 180 = .ok (.iconst 0, 1) := by decide +kernel
theorem dX3_carries_181 : decode cX3_carries 181 = .ok (.ireturn, 1) := by decide +kernel
theorem dX3_carries_182 : decode cX3_carries 182 = .ok (.iconst 1, 1) := by decide +kernel
theorem dX3_carries_183 : decode cX3_carries 183 = .ok (.ireturn, 1) := by decide +kernel
theorem dX3_carries_184 : decode cX3_carries 184 = .ok (.iload_n 3, 1) := by decide +kernel
theorem dX3_carries_185 : decode cX3_carries 185 = .ok (.ireturn, 1) := by decide +kernel
theorem dX3_softens_0 : decode cX3_softens 0 = .ok (.aload_n 0, 1) := by decide +kernel
theorem dX3_softens_1 : decode cX3_softens 1 = .ok (.iload_n 1, 1) := by decide +kernel
theorem dX3_softens_2 : decode cX3_softens 2 = .ok (.invokevirtual 59, 3) := by decide +kernel
theorem dX3_softens_5 : decode cX3_softens 5 = .ok (.ifCond .eq 11, 3) := by decide +kernel
theorem dX3_softens_8 : decode cX3_softens 8 = .ok (.aload_n 0, 1) := by decide +kernel
theorem dX3_softens_9 : decode cX3_softens 9 = .ok (.iload_n 2, 1) := by decide +kernel
theorem dX3_softens_10 : decode cX3_softens 10 = .ok (.invokevirtual 63, 3) := by decide +kernel
theorem dX3_softens_13 : decode cX3_softens 13 = .ok (.ifCond .ne 5, 3) := by decide +kernel
theorem dX3_softens_16 : decode cX3_softens 16 = .ok (.iconst 0, 1) := by decide +kernel
theorem dX3_softens_17 : decode cX3_softens 17 = .ok (.ireturn, 1) := by decide +kernel
theorem dX3_softens_18 : decode cX3_softens 18 = .ok (.aload_n 0, 1) := by decide +kernel
theorem dX3_softens_19 : decode cX3_softens 19 = .ok (.iconst 1, 1) := by decide +kernel
theorem dX3_softens_20 : decode cX3_softens 20 = .ok (.iload_n 1, 1) := by decide +kernel
theorem dX3_softens_21 : decode cX3_softens 21 = .ok (.iload_n 2, 1) := by decide +kernel
theorem dX3_softens_22 : decode cX3_softens 22 = .ok (.invokevirtual 114, 3) := by decide +kernel
theorem dX3_softens_25 : decode cX3_softens 25 = .ok (.istore_n 3, 1) := by decide +kernel
theorem dX3_softens_26 : decode cX3_softens 26 = .ok (.aload_n 0, 1) := by decide +kernel
theorem dX3_softens_27 : decode cX3_softens 27 = .ok (.getfield 15, 3) := by decide +kernel
theorem dX3_softens_30 : decode cX3_softens 30 = .ok (.iload_n 1, 1) := by decide +kernel
theorem dX3_softens_31 : decode cX3_softens 31 = .ok (.iaload, 1) := by decide +kernel
theorem dX3_softens_32 : decode cX3_softens 32 = .ok (.tableswitch 80 1 5 #[36, 40, 49, 68, 78], 36) := by decide +kernel
theorem dX3_softens_68 : decode cX3_softens 68 = .ok (.iconst 2, 1) := by decide +kernel
theorem dX3_softens_69 : decode cX3_softens 69 = .ok (.iload_n 3, 1) := by decide +kernel
theorem dX3_softens_70 : decode cX3_softens 70 = .ok (.imul, 1) := by decide +kernel
theorem dX3_softens_71 : decode cX3_softens 71 = .ok (.ireturn, 1) := by decide +kernel
theorem dX3_softens_72 : decode cX3_softens 72 = .ok (.iload_n 3, 1) := by decide +kernel
theorem dX3_softens_73 : decode cX3_softens 73 = .ok (.aload_n 0, 1) := by decide +kernel
theorem dX3_softens_74 : decode cX3_softens 74 = .ok (.getfield 19, 3) := by decide +kernel
theorem dX3_softens_77 : decode cX3_softens 77 = .ok (.iload_n 1, 1) := by decide +kernel
theorem dX3_softens_78 : decode cX3_softens 78 = .ok (.iaload, 1) := by decide +kernel
theorem dX3_softens_79 : decode cX3_softens 79 = .ok (.iadd, 1) := by decide +kernel
theorem dX3_softens_80 : decode cX3_softens 80 = .ok (.ireturn, 1) := by decide +kernel
theorem dX3_softens_81 : decode cX3_softens 81 = .ok (.aload_n 0, 1) := by decide +kernel
theorem dX3_softens_82 : decode cX3_softens 82 = .ok (.getfield 34, 3) := by decide +kernel
theorem dX3_softens_85 : decode cX3_softens 85 = .ok (.iload_n 2, 1) := by decide +kernel
theorem dX3_softens_86 : decode cX3_softens 86 = .ok (.iaload, 1) := by decide +kernel
theorem dX3_softens_87 : decode cX3_softens 87 = .ok (.bipush 20, 2) := by decide +kernel
theorem dX3_softens_89 : decode cX3_softens 89 = .ok (.if_icmp .le 9, 3) := by decide +kernel
theorem dX3_softens_92 : decode cX3_softens 92 = .ok (.iconst 2, 1) := by decide +kernel
theorem dX3_softens_93 : decode cX3_softens 93 = .ok (.iload_n 3, 1) := by decide +kernel
theorem dX3_softens_94 : decode cX3_softens 94 = .ok (.imul, 1) := by decide +kernel
theorem dX3_softens_95 : decode cX3_softens 95 = .ok (.goto 4, 3) := by decide +kernel
theorem dX3_softens_98 : decode cX3_softens 98 = .ok (.iconst 0, 1) := by decide +kernel
theorem dX3_softens_99 : decode cX3_softens 99 = .ok (.ireturn, 1) := by decide +kernel
theorem dX3_softens_100 : decode cX3_softens 100 = .ok (.iload_n 3, 1) := by decide +kernel
theorem dX3_softens_101 : decode cX3_softens 101 = .ok (.aload_n 0, 1) := by decide +kernel
theorem dX3_softens_102 : decode cX3_softens 102 = .ok (.getfield 19, 3) := by decide +kernel
theorem dX3_softens_105 : decode cX3_softens 105 = .ok (.iload_n 1, 1) := by decide +kernel
theorem dX3_softens_106 : decode cX3_softens 106 = .ok (.iaload, 1) := by decide +kernel
theorem dX3_softens_107 : decode cX3_softens 107 = .ok (.iadd, 1) := by decide +kernel
theorem dX3_softens_108 : decode cX3_softens 108 = .ok (.ineg, 1) := by decide +kernel
theorem dX3_softens_109 : decode cX3_softens 109 = .ok (.ireturn, 1) := by decide +kernel
theorem dX3_softens_110 : decode cX3_softens 110 = .ok (.iconst 0, 1) := by decide +kernel
theorem dX3_softens_111 : decode cX3_softens 111 = .ok (.ireturn, 1) := by decide +kernel
theorem dX3_softens_112 : decode cX3_softens 112 = .ok (.iload_n 3, 1) := by decide +kernel
theorem dX3_softens_113 : decode cX3_softens 113 = .ok (.ireturn, 1) := by decide +kernel
theorem dX3_toneWritten_0 : decode cX3_toneWritten 0 = .ok (.aload_n 0, 1) := by decide +kernel
theorem dX3_toneWritten_1 : decode cX3_toneWritten 1 = .ok (.iload_n 1, 1) := by decide +kernel
theorem dX3_toneWritten_2 : decode cX3_toneWritten 2 = .ok (.invokevirtual 59, 3) := by decide +kernel
theorem dX3_toneWritten_5 : decode cX3_toneWritten 5 = .ok (.ifCond .ne 5, 3) := by decide +kernel
theorem dX3_toneWritten_8 : decode cX3_toneWritten 8 = .ok (.iconst 0, 1) := by decide +kernel
theorem dX3_toneWritten_9 : decode cX3_toneWritten 9 = .ok (.ireturn, 1) := by decide +kernel
theorem dX3_toneWritten_10 : decode cX3_toneWritten 10 = .ok (.aload_n 0, 1) := by decide +kernel
theorem dX3_toneWritten_11 : decode cX3_toneWritten 11 = .ok (.iconst 2, 1) := by decide +kernel
theorem dX3_toneWritten_12 : decode cX3_toneWritten 12 = .ok (.iload_n 1, 1) := by decide +kernel
theorem dX3_toneWritten_13 : decode cX3_toneWritten 13 = .ok (.iconst (-1), 1) := by decide +kernel
theorem dX3_toneWritten_14 : decode cX3_toneWritten 14 = .ok (.invokevirtual 114, 3) := by decide +kernel
theorem dX3_toneWritten_17 : decode cX3_toneWritten 17 = .ok (.istore_n 2, 1) := by decide +kernel
theorem dX3_toneWritten_18 : decode cX3_toneWritten 18 = .ok (.aload_n 0, 1) := by decide +kernel
theorem dX3_toneWritten_19 : decode cX3_toneWritten 19 = .ok (.getfield 15, 3) := by decide +kernel
theorem dX3_toneWritten_22 : decode cX3_toneWritten 22 = .ok (.iload_n 1, 1) := by decide +kernel
theorem dX3_toneWritten_23 : decode cX3_toneWritten 23 = .ok (.iaload, 1) := by decide +kernel
theorem dX3_toneWritten_24 : decode cX3_toneWritten 24 = .ok (.tableswitch 55 1 5 #[36, 40, 36, 40, 45], 36) := by decide +kernel
theorem dX3_toneWritten_60 : decode cX3_toneWritten 60 = .ok (.iload_n 2, 1) := by decide +kernel
theorem dX3_toneWritten_61 : decode cX3_toneWritten 61 = .ok (.iconst 2, 1) := by decide +kernel
theorem dX3_toneWritten_62 : decode cX3_toneWritten 62 = .ok (.idiv, 1) := by decide +kernel
theorem dX3_toneWritten_63 : decode cX3_toneWritten 63 = .ok (.ireturn, 1) := by decide +kernel
theorem dX3_toneWritten_64 : decode cX3_toneWritten 64 = .ok (.bipush 99, 2) := by decide +kernel
theorem dX3_toneWritten_66 : decode cX3_toneWritten 66 = .ok (.iload_n 2, 1) := by decide +kernel
theorem dX3_toneWritten_67 : decode cX3_toneWritten 67 = .ok (.isub, 1) := by decide +kernel
theorem dX3_toneWritten_68 : decode cX3_toneWritten 68 = .ok (.ireturn, 1) := by decide +kernel
theorem dX3_toneWritten_69 : decode cX3_toneWritten 69 = .ok (.bipush 10, 2) := by decide +kernel
theorem dX3_toneWritten_71 : decode cX3_toneWritten 71 = .ok (.aload_n 0, 1) := by decide +kernel
theorem dX3_toneWritten_72 : decode cX3_toneWritten 72 = .ok (.getfield 19, 3) := by decide +kernel
theorem dX3_toneWritten_75 : decode cX3_toneWritten 75 = .ok (.iload_n 1, 1) := by decide +kernel
theorem dX3_toneWritten_76 : decode cX3_toneWritten 76 = .ok (.iaload, 1) := by decide +kernel
theorem dX3_toneWritten_77 : decode cX3_toneWritten 77 = .ok (.imul, 1) := by decide +kernel
theorem dX3_toneWritten_78 : decode cX3_toneWritten 78 = .ok (.ireturn, 1) := by decide +kernel
theorem dX3_toneWritten_79 : decode cX3_toneWritten 79 = .ok (.iload_n 2, 1) := by decide +kernel
theorem dX3_toneWritten_80 : decode cX3_toneWritten 80 = .ok (.ireturn, 1) := by decide +kernel
theorem dX3_ruled_0 : decode cX3_ruled 0 = .ok (.aload_n 0, 1) := by decide +kernel
theorem dX3_ruled_1 : decode cX3_ruled 1 = .ok (.getfield 40, 3) := by decide +kernel
theorem dX3_ruled_4 : decode cX3_ruled 4 = .ok (.aload_n 0, 1) := by decide +kernel
theorem dX3_ruled_5 : decode cX3_ruled 5 = .ok (.iload_n 3, 1) := by decide +kernel
theorem dX3_ruled_6 : decode cX3_ruled 6 = .ok (.invokevirtual 118, 3) := by decide +kernel
theorem dX3_ruled_9 : decode cX3_ruled 9 = .ok (.putfield 121, 3) := by decide +kernel
theorem dX3_ruled_12 : decode cX3_ruled 12 = .ok (.aload_n 0, 1) := by decide +kernel
theorem dX3_ruled_13 : decode cX3_ruled 13 = .ok (.getfield 40, 3) := by decide +kernel
theorem dX3_ruled_16 : decode cX3_ruled 16 = .ok (.aload_n 0, 1) := by decide +kernel
theorem dX3_ruled_17 : decode cX3_ruled 17 = .ok (.iload_n 2, 1) := by decide +kernel
theorem dX3_ruled_18 : decode cX3_ruled 18 = .ok (.invokevirtual 66, 3) := by decide +kernel
theorem dX3_ruled_21 : decode cX3_ruled 21 = .ok (.putfield 123, 3) := by decide +kernel
theorem dX3_ruled_24 : decode cX3_ruled 24 = .ok (.aload_n 0, 1) := by decide +kernel
theorem dX3_ruled_25 : decode cX3_ruled 25 = .ok (.getfield 40, 3) := by decide +kernel
theorem dX3_ruled_28 : decode cX3_ruled 28 = .ok (.aload_n 0, 1) := by decide +kernel
theorem dX3_ruled_29 : decode cX3_ruled 29 = .ok (.iload_n 2, 1) := by decide +kernel
theorem dX3_ruled_30 : decode cX3_ruled 30 = .ok (.invokevirtual 125, 3) := by decide +kernel
theorem dX3_ruled_33 : decode cX3_ruled 33 = .ok (.putfield 128, 3) := by decide +kernel
theorem dX3_ruled_36 : decode cX3_ruled 36 = .ok (.aload_n 0, 1) := by decide +kernel
theorem dX3_ruled_37 : decode cX3_ruled 37 = .ok (.getfield 40, 3) := by decide +kernel
theorem dX3_ruled_40 : decode cX3_ruled 40 = .ok (.aload_n 0, 1) := by decide +kernel
theorem dX3_ruled_41 : decode cX3_ruled 41 = .ok (.getfield 44, 3) := by decide +kernel
theorem dX3_ruled_44 : decode cX3_ruled 44 = .ok (.putfield 130, 3) := by decide +kernel
theorem dX3_ruled_47 : decode cX3_ruled 47 = .ok (.aload_n 0, 1) := by decide +kernel
theorem dX3_ruled_48 : decode cX3_ruled 48 = .ok (.getfield 40, 3) := by decide +kernel
theorem dX3_ruled_51 : decode cX3_ruled 51 = .ok (.aload_n 0, 1) := by decide +kernel
theorem dX3_ruled_52 : decode cX3_ruled 52 = .ok (.iload_n 3, 1) := by decide +kernel
theorem dX3_ruled_53 : decode cX3_ruled 53 = .ok (.invokevirtual 84, 3) := by decide +kernel
theorem dX3_ruled_56 : decode cX3_ruled 56 = .ok (.invokestatic 131, 3) := by decide +kernel
theorem dX3_ruled_59 : decode cX3_ruled 59 = .ok (.putfield 136, 3) := by decide +kernel
theorem dX3_ruled_62 : decode cX3_ruled 62 = .ok (.aload_n 0, 1) := by decide +kernel
theorem dX3_ruled_63 : decode cX3_ruled 63 = .ok (.getfield 40, 3) := by decide +kernel
theorem dX3_ruled_66 : decode cX3_ruled 66 = .ok (.aload_n 0, 1) := by decide +kernel
theorem dX3_ruled_67 : decode cX3_ruled 67 = .ok (.iload_n 3, 1) := by decide +kernel
theorem dX3_ruled_68 : decode cX3_ruled 68 = .ok (.invokevirtual 63, 3) := by decide +kernel
theorem dX3_ruled_71 : decode cX3_ruled 71 = .ok (.ifCond .eq 17, 3) := by decide +kernel
theorem dX3_ruled_74 : decode cX3_ruled 74 = .ok (.aload_n 0, 1) := by decide +kernel
theorem dX3_ruled_75 : decode cX3_ruled 75 = .ok (.getfield 25, 3) := by decide +kernel
theorem dX3_ruled_78 : decode cX3_ruled 78 = .ok (.iload_n 3, 1) := by decide +kernel
theorem dX3_ruled_79 : decode cX3_ruled 79 = .ok (.iaload, 1) := by decide +kernel
theorem dX3_ruled_80 : decode cX3_ruled 80 = .ok (.iload_n 2, 1) := by decide +kernel
theorem dX3_ruled_81 : decode cX3_ruled 81 = .ok (.if_icmp .ne 7, 3) := by decide +kernel
theorem dX3_ruled_84 : decode cX3_ruled 84 = .ok (.iconst 1, 1) := by decide +kernel
theorem dX3_ruled_85 : decode cX3_ruled 85 = .ok (.goto 4, 3) := by decide +kernel
theorem dX3_ruled_88 : decode cX3_ruled 88 = .ok (.iconst 0, 1) := by decide +kernel
theorem dX3_ruled_89 : decode cX3_ruled 89 = .ok (.putfield 138, 3) := by decide +kernel
theorem dX3_ruled_92 : decode cX3_ruled 92 = .ok (.aload_n 0, 1) := by decide +kernel
theorem dX3_ruled_93 : decode cX3_ruled 93 = .ok (.getfield 40, 3) := by decide +kernel
theorem dX3_ruled_96 : decode cX3_ruled 96 = .ok (.aload_n 0, 1) := by decide +kernel
theorem dX3_ruled_97 : decode cX3_ruled 97 = .ok (.getfield 47, 3) := by decide +kernel
theorem dX3_ruled_100 : decode cX3_ruled 100 = .ok (.iload_n 1, 1) := by decide +kernel
theorem dX3_ruled_101 : decode cX3_ruled 101 = .ok (.invokevirtual 141, 3) := by decide +kernel
theorem dX3_ruled_104 : decode cX3_ruled 104 = .ok (.iload_n 1, 1) := by decide +kernel
theorem dX3_ruled_105 : decode cX3_ruled 105 = .ok (.iconst 2, 1) := by decide +kernel
theorem dX3_ruled_106 : decode cX3_ruled 106 = .ok (.if_icmp .ne 7, 3) := by decide +kernel
theorem dX3_ruled_109 : decode cX3_ruled 109 = .ok (.iconst 0, 1) := by decide +kernel
theorem dX3_ruled_110 : decode cX3_ruled 110 = .ok (.goto 5, 3) := by decide +kernel
theorem dX3_ruled_113 : decode cX3_ruled 113 = .ok (.bipush (-99), 2) := by decide +kernel
theorem dX3_ruled_115 : decode cX3_ruled 115 = .ok (.invokestatic 109, 3) := by decide +kernel
theorem dX3_ruled_118 : decode cX3_ruled 118 = .ok (.ireturn, 1) := by decide +kernel
theorem dX3_bounded_0 : decode cX3_bounded 0 = .ok (.iload_n 1, 1) := by decide +kernel
theorem dX3_bounded_1 : decode cX3_bounded 1 = .ok (.bipush 99, 2) := by decide +kernel
theorem dX3_bounded_3 : decode cX3_bounded 3 = .ok (.iload_n 0, 1) := by decide +kernel
theorem dX3_bounded_4 : decode cX3_bounded 4 = .ok (.invokestatic 144, 3) := by decide +kernel
theorem dX3_bounded_7 : decode cX3_bounded 7 = .ok (.invokestatic 149, 3) := by decide +kernel
theorem dX3_bounded_10 : decode cX3_bounded 10 = .ok (.ireturn, 1) := by decide +kernel
theorem dX3_isUnder_0 : decode cX3_isUnder 0 = .ok (.iload_n 0, 1) := by decide +kernel
theorem dX3_isUnder_1 : decode cX3_isUnder 1 = .ok (.istore_n 2, 1) := by decide +kernel
theorem dX3_isUnder_2 : decode cX3_isUnder 2 = .ok (.iconst 0, 1) := by decide +kernel
theorem dX3_isUnder_3 : decode cX3_isUnder 3 = .ok (.istore_n 3, 1) := by decide +kernel
theorem dX3_isUnder_4 : decode cX3_isUnder 4 = .ok (.iload_n 3, 1) := by decide +kernel
theorem dX3_isUnder_5 : decode cX3_isUnder 5 = .ok (.bipush 6, 2) := by decide +kernel
theorem dX3_isUnder_7 : decode cX3_isUnder 7 = .ok (.if_icmp .ge 34, 3) := by decide +kernel
theorem dX3_isUnder_10 : decode cX3_isUnder 10 = .ok (.iload_n 2, 1) := by decide +kernel
theorem dX3_isUnder_11 : decode cX3_isUnder 11 = .ok (.ifCond .lt 30, 3) := by decide +kernel
theorem dX3_isUnder_14 : decode cX3_isUnder 14 = .ok (.iload_n 2, 1) := by decide +kernel
theorem dX3_isUnder_15 : decode cX3_isUnder 15 = .ok (.getstatic 152, 3) := by decide +kernel
theorem dX3_isUnder_18 : decode cX3_isUnder 18 = .ok (.arraylength, 1) := by decide +kernel
theorem dX3_isUnder_19 : decode cX3_isUnder 19 = .ok (.if_icmp .ge 22, 3) := by decide +kernel
theorem dX3_isUnder_22 : decode cX3_isUnder 22 = .ok (.iload_n 2, 1) := by decide +kernel
theorem dX3_isUnder_23 : decode cX3_isUnder 23 = .ok (.iload_n 1, 1) := by decide +kernel
theorem dX3_isUnder_24 : decode cX3_isUnder 24 = .ok (.if_icmp .ne 5, 3) := by decide +kernel
theorem dX3_isUnder_27 : decode cX3_isUnder 27 = .ok (.iconst 1, 1) := by decide +kernel
theorem dX3_isUnder_28 : decode cX3_isUnder 28 = .ok (.ireturn, 1) := by decide +kernel
theorem dX3_isUnder_29 : decode cX3_isUnder 29 = .ok (.getstatic 152, 3) := by decide +kernel
theorem dX3_isUnder_32 : decode cX3_isUnder 32 = .ok (.iload_n 2, 1) := by decide +kernel
theorem dX3_isUnder_33 : decode cX3_isUnder 33 = .ok (.iaload, 1) := by decide +kernel
theorem dX3_isUnder_34 : decode cX3_isUnder 34 = .ok (.istore_n 2, 1) := by decide +kernel
theorem dX3_isUnder_35 : decode cX3_isUnder 35 = .ok (.iinc 3 1, 3) := by decide +kernel
theorem dX3_isUnder_38 : decode cX3_isUnder 38 = .ok (.goto (-34), 3) := by decide +kernel
theorem dX3_isUnder_41 : decode cX3_isUnder 41 = .ok (.iconst 0, 1) := by decide +kernel
theorem dX3_isUnder_42 : decode cX3_isUnder 42 = .ok (.ireturn, 1) := by decide +kernel
theorem dX4_init_0 : decode cX4_init 0 = .ok (.aload_n 0, 1) := by decide +kernel
theorem dX4_init_1 : decode cX4_init 1 = .ok (.invokespecial 1, 3) := by decide +kernel
theorem dX4_init_4 : decode cX4_init 4 = .ok (.new 7, 3) := by decide +kernel
theorem dX4_init_7 : decode cX4_init 7 = .ok (.dup, 1) := by decide +kernel
theorem dX4_init_8 : decode cX4_init 8 = .ok (.invokespecial 9, 3) := by decide +kernel
theorem dX4_init_11 : decode cX4_init 11 = .ok (.astore_n 1, 1) := by decide +kernel
theorem dX4_init_12 : decode cX4_init 12 = .ok (.aload_n 0, 1) := by decide +kernel
theorem dX4_init_13 : decode cX4_init 13 = .ok (.aload_n 1, 1) := by decide +kernel
theorem dX4_init_14 : decode cX4_init 14 = .ok (.putfield 10, 3) := by decide +kernel
theorem dX4_init_17 : decode cX4_init 17 = .ok (.aload_n 0, 1) := by decide +kernel
theorem dX4_init_18 : decode cX4_init 18 = .ok (.new 16, 3) := by decide +kernel
theorem dX4_init_21 : decode cX4_init 21 = .ok (.dup, 1) := by decide +kernel
theorem dX4_init_22 : decode cX4_init 22 = .ok (.aload_n 1, 1) := by decide +kernel
theorem dX4_init_23 : decode cX4_init 23 = .ok (.invokespecial 18, 3) := by decide +kernel
theorem dX4_init_26 : decode cX4_init 26 = .ok (.putfield 21, 3) := by decide +kernel
theorem dX4_init_29 : decode cX4_init 29 = .ok (.aload_n 0, 1) := by decide +kernel
theorem dX4_init_30 : decode cX4_init 30 = .ok (.getfield 21, 3) := by decide +kernel
theorem dX4_init_33 : decode cX4_init 33 = .ok (.ldc 25, 2) := by decide +kernel
theorem dX4_init_35 : decode cX4_init 35 = .ok (.invokevirtual 27, 3) := by decide +kernel
theorem dX4_init_38 : decode cX4_init 38 = .ok (.aload_n 0, 1) := by decide +kernel
theorem dX4_init_39 : decode cX4_init 39 = .ok (.getfield 21, 3) := by decide +kernel
theorem dX4_init_42 : decode cX4_init 42 = .ok (.invokevirtual 31, 3) := by decide +kernel
theorem dX4_init_45 : decode cX4_init 45 = .ok (.pop, 1) := by decide +kernel
theorem dX4_init_46 : decode cX4_init 46 = .ok (.aload_n 0, 1) := by decide +kernel
theorem dX4_init_47 : decode cX4_init 47 = .ok (.new 35, 3) := by decide +kernel
theorem dX4_init_50 : decode cX4_init 50 = .ok (.dup, 1) := by decide +kernel
theorem dX4_init_51 : decode cX4_init 51 = .ok (.aload_n 1, 1) := by decide +kernel
theorem dX4_init_52 : decode cX4_init 52 = .ok (.invokespecial 37, 3) := by decide +kernel
theorem dX4_init_55 : decode cX4_init 55 = .ok (.putfield 38, 3) := by decide +kernel
theorem dX4_init_58 : decode cX4_init 58 = .ok (.aload_n 0, 1) := by decide +kernel
theorem dX4_init_59 : decode cX4_init 59 = .ok (.new 35, 3) := by decide +kernel
theorem dX4_init_62 : decode cX4_init 62 = .ok (.dup, 1) := by decide +kernel
theorem dX4_init_63 : decode cX4_init 63 = .ok (.aload_n 1, 1) := by decide +kernel
theorem dX4_init_64 : decode cX4_init 64 = .ok (.invokespecial 37, 3) := by decide +kernel
theorem dX4_init_67 : decode cX4_init 67 = .ok (.putfield 42, 3) := by decide +kernel
theorem dX4_init_70 : decode cX4_init 70 = .ok (.aload_n 0, 1) := by decide +kernel
theorem dX4_init_71 : decode cX4_init 71 = .ok (.new 35, 3) := by decide +kernel
theorem dX4_init_74 : decode cX4_init 74 = .ok (.dup, 1) := by decide +kernel
theorem dX4_init_75 : decode cX4_init 75 = .ok (.aload_n 1, 1) := by decide +kernel
theorem dX4_init_76 : decode cX4_init 76 = .ok (.invokespecial 37, 3) := by decide +kernel
theorem dX4_init_79 : decode cX4_init 79 = .ok (.putfield 45, 3) := by decide +kernel
theorem dX4_init_82 : decode cX4_init 82 = .ok (.aload_n 0, 1) := by decide +kernel
theorem dX4_init_83 : decode cX4_init 83 = .ok (.iconst 5, 1) := by decide +kernel
theorem dX4_init_84 : decode cX4_init 84 = .ok (.newarray .int, 2) := by decide +kernel
theorem dX4_init_86 : decode cX4_init 86 = .ok (.putfield 48, 3) := by decide +kernel
theorem dX4_init_89 : decode cX4_init 89 = .ok (.aload_n 0, 1) := by decide +kernel
theorem dX4_init_90 : decode cX4_init 90 = .ok (.iconst 4, 1) := by decide +kernel
theorem dX4_init_91 : decode cX4_init 91 = .ok (.anewarray 52, 3) := by decide +kernel
theorem dX4_init_94 : decode cX4_init 94 = .ok (.putfield 54, 3) := by decide +kernel
theorem dX4_init_97 : decode cX4_init 97 = .ok (.iconst 0, 1) := by decide +kernel
theorem dX4_init_98 : decode cX4_init 98 = .ok (.istore_n 2, 1) := by decide +kernel
theorem dX4_init_99 : decode cX4_init 99 = .ok (.iload_n 2, 1) := by decide +kernel
theorem dX4_init_100 : decode cX4_init 100 = .ok (.aload_n 0, 1) := by decide +kernel
theorem dX4_init_101 : decode cX4_init 101 = .ok (.getfield 54, 3) := by decide +kernel
theorem dX4_init_104 : decode cX4_init 104 = .ok (.arraylength, 1) := by decide +kernel
theorem dX4_init_105 : decode cX4_init 105 = .ok (.if_icmp .ge 22, 3) := by decide +kernel
theorem dX4_init_108 : decode cX4_init 108 = .ok (.aload_n 0, 1) := by decide +kernel
theorem dX4_init_109 : decode cX4_init 109 = .ok (.getfield 54, 3) := by decide +kernel
theorem dX4_init_112 : decode cX4_init 112 = .ok (.iload_n 2, 1) := by decide +kernel
theorem dX4_init_113 : decode cX4_init 113 = .ok (.new 52, 3) := by decide +kernel
theorem dX4_init_116 : decode cX4_init 116 = .ok (.dup, 1) := by decide +kernel
theorem dX4_init_117 : decode cX4_init 117 = .ok (.invokespecial 58, 3) := by decide +kernel
theorem dX4_init_120 : decode cX4_init 120 = .ok (.aastore, 1) := by decide +kernel
theorem dX4_init_121 : decode cX4_init 121 = .ok (.iinc 2 1, 3) := by decide +kernel
theorem dX4_init_124 : decode cX4_init 124 = .ok (.goto (-25), 3) := by decide +kernel
theorem dX4_init_127 : decode cX4_init 127 = .ok (.return_, 1) := by decide +kernel
theorem dX4_set_0 : decode cX4_set 0 = .ok (.aload_n 0, 1) := by decide +kernel
theorem dX4_set_1 : decode cX4_set 1 = .ok (.iload_n 2, 1) := by decide +kernel
theorem dX4_set_2 : decode cX4_set 2 = .ok (.iload_n 1, 1) := by decide +kernel
theorem dX4_set_3 : decode cX4_set 3 = .ok (.invokevirtual 59, 3) := by decide +kernel
theorem dX4_set_6 : decode cX4_set 6 = .ok (.istore 4, 2) := by decide +kernel
theorem dX4_set_8 : decode cX4_set 8 = .ok (.iload_n 1, 1) := by decide +kernel
theorem dX4_set_9 : decode cX4_set 9 = .ok (.ifCond .lt 28, 3) := by decide +kernel
theorem dX4_set_12 : decode cX4_set 12 = .ok (.iload_n 1, 1) := by decide +kernel
theorem dX4_set_13 : decode cX4_set 13 = .ok (.iconst 3, 1) := by decide +kernel
theorem dX4_set_14 : decode cX4_set 14 = .ok (.if_icmp .gt 23, 3) := by decide +kernel
theorem dX4_set_17 : decode cX4_set 17 = .ok (.iload 4, 2) := by decide +kernel
theorem dX4_set_19 : decode cX4_set 19 = .ok (.sipush (-1000), 3) := by decide +kernel
theorem dX4_set_22 : decode cX4_set 22 = .ok (.if_icmp .eq 15, 3) := by decide +kernel
theorem dX4_set_25 : decode cX4_set 25 = .ok (.iload_n 3, 1) := by decide +kernel
theorem dX4_set_26 : decode cX4_set 26 = .ok (.ifCond .lt 11, 3) := by decide +kernel
theorem dX4_set_29 : decode cX4_set 29 = .ok (.iload_n 3, 1) := by decide +kernel
theorem dX4_set_30 : decode cX4_set 30 = .ok (.iload_n 1, 1) := by decide +kernel
theorem dX4_set_31 : decode cX4_set 31 = .ok (.invokestatic 63, 3) := by decide +kernel
theorem dX4_set_34 : decode cX4_set 34 = .ok (.if_icmp .le 6, 3) := by decide +kernel
theorem dX4_set_37 : decode cX4_set 37 = .ok (.bipush (-2), 2) := by decide +kernel
theorem dX4_set_39 : decode cX4_set 39 = .ok (.ireturn, 1) := by decide +kernel
theorem dX4_set_40 : decode cX4_set 40 = .ok (.iload_n 1, 1) := by decide +kernel
theorem dX4_set_41 : decode cX4_set 41 = .ok (.tableswitch 61 0 2 #[27, 38, 49], 27) := by decide +kernel
theorem dX4_set_68 : decode cX4_set 68 = .ok (.aload_n 0, 1) := by decide +kernel
theorem dX4_set_69 : decode cX4_set 69 = .ok (.getfield 38, 3) := by decide +kernel
theorem dX4_set_72 : decode cX4_set 72 = .ok (.iload_n 3, 1) := by decide +kernel
theorem dX4_set_73 : decode cX4_set 73 = .ok (.putfield 67, 3) := by decide +kernel
theorem dX4_set_76 : decode cX4_set 76 = .ok (.goto 35, 3) := by decide +kernel
theorem dX4_set_79 : decode cX4_set 79 = .ok (.aload_n 0, 1) := by decide +kernel
theorem dX4_set_80 : decode cX4_set 80 = .ok (.getfield 38, 3) := by decide +kernel
theorem dX4_set_83 : decode cX4_set 83 = .ok (.iload_n 3, 1) := by decide +kernel
theorem dX4_set_84 : decode cX4_set 84 = .ok (.putfield 71, 3) := by decide +kernel
theorem dX4_set_87 : decode cX4_set 87 = .ok (.goto 24, 3) := by decide +kernel
theorem dX4_set_90 : decode cX4_set 90 = .ok (.aload_n 0, 1) := by decide +kernel
theorem dX4_set_91 : decode cX4_set 91 = .ok (.getfield 38, 3) := by decide +kernel
theorem dX4_set_94 : decode cX4_set 94 = .ok (.iload_n 2, 1) := by decide +kernel
theorem dX4_set_95 : decode cX4_set 95 = .ok (.iload_n 3, 1) := by decide +kernel
theorem dX4_set_96 : decode cX4_set 96 = .ok (.invokevirtual 74, 3) := by decide +kernel
theorem dX4_set_99 : decode cX4_set 99 = .ok (.goto 12, 3) := by decide +kernel
theorem dX4_set_102 : decode cX4_set 102 = .ok (.aload_n 0, 1) := by decide +kernel
theorem dX4_set_103 : decode cX4_set 103 = .ok (.getfield 38, 3) := by decide +kernel
theorem dX4_set_106 : decode cX4_set 106 = .ok (.iload_n 2, 1) := by decide +kernel
theorem dX4_set_107 : decode cX4_set 107 = .ok (.iload_n 3, 1) := by decide +kernel
theorem dX4_set_108 : decode cX4_set 108 = .ok (.invokevirtual 78, 3) := by decide +kernel
theorem dX4_set_111 : decode cX4_set 111 = .ok (.iload 4, 2) := by decide +kernel
theorem dX4_set_113 : decode cX4_set 113 = .ok (.ireturn, 1) := by decide +kernel
theorem dX4_person_0 : decode cX4_person 0 = .ok (.iload_n 1, 1) := by decide +kernel
theorem dX4_person_1 : decode cX4_person 1 = .ok (.ifCond .lt 18, 3) := by decide +kernel
theorem dX4_person_4 : decode cX4_person 4 = .ok (.iload_n 1, 1) := by decide +kernel
theorem dX4_person_5 : decode cX4_person 5 = .ok (.iconst 5, 1) := by decide +kernel
theorem dX4_person_6 : decode cX4_person 6 = .ok (.if_icmp .gt 13, 3) := by decide +kernel
theorem dX4_person_9 : decode cX4_person 9 = .ok (.iload_n 2, 1) := by decide +kernel
theorem dX4_person_10 : decode cX4_person 10 = .ok (.ifCond .lt 9, 3) := by decide +kernel
theorem dX4_person_13 : decode cX4_person 13 = .ok (.iload_n 2, 1) := by decide +kernel
theorem dX4_person_14 : decode cX4_person 14 = .ok (.bipush 9, 2) := by decide +kernel
theorem dX4_person_16 : decode cX4_person 16 = .ok (.if_icmp .le 6, 3) := by decide +kernel
theorem dX4_person_19 : decode cX4_person 19 = .ok (.bipush (-2), 2) := by decide +kernel
theorem dX4_person_21 : decode cX4_person 21 = .ok (.ireturn, 1) := by decide +kernel
theorem dX4_person_22 : decode cX4_person 22 = .ok (.iload_n 3, 1) := by decide +kernel
theorem dX4_person_23 : decode cX4_person 23 = .ok (.ifCond .lt 21, 3) := by decide +kernel
theorem dX4_person_26 : decode cX4_person 26 = .ok (.iload_n 3, 1) := by decide +kernel
theorem dX4_person_27 : decode cX4_person 27 = .ok (.bipush 8, 2) := by decide +kernel
theorem dX4_person_29 : decode cX4_person 29 = .ok (.if_icmp .ge 15, 3) := by decide +kernel
theorem dX4_person_32 : decode cX4_person 32 = .ok (.aload_n 0, 1) := by decide +kernel
theorem dX4_person_33 : decode cX4_person 33 = .ok (.getfield 38, 3) := by decide +kernel
theorem dX4_person_36 : decode cX4_person 36 = .ok (.iload_n 3, 1) := by decide +kernel
theorem dX4_person_37 : decode cX4_person 37 = .ok (.invokevirtual 81, 3) := by decide +kernel
theorem dX4_person_40 : decode cX4_person 40 = .ok (.iconst (-1), 1) := by decide +kernel
theorem dX4_person_41 : decode cX4_person 41 = .ok (.if_icmp .eq 6, 3) := by decide +kernel
theorem dX4_person_44 : decode cX4_person 44 = .ok (.bipush (-2), 2) := by decide +kernel
theorem dX4_person_46 : decode cX4_person 46 = .ok (.ireturn, 1) := by decide +kernel
theorem dX4_person_47 : decode cX4_person 47 = .ok (.aload_n 0, 1) := by decide +kernel
theorem dX4_person_48 : decode cX4_person 48 = .ok (.getfield 38, 3) := by decide +kernel
theorem dX4_person_51 : decode cX4_person 51 = .ok (.iload_n 1, 1) := by decide +kernel
theorem dX4_person_52 : decode cX4_person 52 = .ok (.iload_n 2, 1) := by decide +kernel
theorem dX4_person_53 : decode cX4_person 53 = .ok (.iload_n 3, 1) := by decide +kernel
theorem dX4_person_54 : decode cX4_person 54 = .ok (.invokevirtual 84, 3) := by decide +kernel
theorem dX4_person_57 : decode cX4_person 57 = .ok (.ireturn, 1) := by decide +kernel
theorem dX4_swap_0 : decode cX4_swap 0 = .ok (.aload_n 0, 1) := by decide +kernel
theorem dX4_swap_1 : decode cX4_swap 1 = .ok (.getfield 38, 3) := by decide +kernel
theorem dX4_swap_4 : decode cX4_swap 4 = .ok (.iload_n 1, 1) := by decide +kernel
theorem dX4_swap_5 : decode cX4_swap 5 = .ok (.iload_n 2, 1) := by decide +kernel
theorem dX4_swap_6 : decode cX4_swap 6 = .ok (.invokevirtual 88, 3) := by decide +kernel
theorem dX4_swap_9 : decode cX4_swap 9 = .ok (.ifCond .ne 6, 3) := by decide +kernel
theorem dX4_swap_12 : decode cX4_swap 12 = .ok (.bipush (-2), 2) := by decide +kernel
theorem dX4_swap_14 : decode cX4_swap 14 = .ok (.ireturn, 1) := by decide +kernel
theorem dX4_swap_15 : decode cX4_swap 15 = .ok (.aload_n 0, 1) := by decide +kernel
theorem dX4_swap_16 : decode cX4_swap 16 = .ok (.getfield 38, 3) := by decide +kernel
theorem dX4_swap_19 : decode cX4_swap 19 = .ok (.iload_n 2, 1) := by decide +kernel
theorem dX4_swap_20 : decode cX4_swap 20 = .ok (.invokevirtual 92, 3) := by decide +kernel
theorem dX4_swap_23 : decode cX4_swap 23 = .ok (.istore_n 3, 1) := by decide +kernel
theorem dX4_swap_24 : decode cX4_swap 24 = .ok (.aload_n 0, 1) := by decide +kernel
theorem dX4_swap_25 : decode cX4_swap 25 = .ok (.getfield 38, 3) := by decide +kernel
theorem dX4_swap_28 : decode cX4_swap 28 = .ok (.iload_n 2, 1) := by decide +kernel
theorem dX4_swap_29 : decode cX4_swap 29 = .ok (.aload_n 0, 1) := by decide +kernel
theorem dX4_swap_30 : decode cX4_swap 30 = .ok (.getfield 38, 3) := by decide +kernel
theorem dX4_swap_33 : decode cX4_swap 33 = .ok (.iload_n 1, 1) := by decide +kernel
theorem dX4_swap_34 : decode cX4_swap 34 = .ok (.invokevirtual 92, 3) := by decide +kernel
theorem dX4_swap_37 : decode cX4_swap 37 = .ok (.invokevirtual 95, 3) := by decide +kernel
theorem dX4_swap_40 : decode cX4_swap 40 = .ok (.aload_n 0, 1) := by decide +kernel
theorem dX4_swap_41 : decode cX4_swap 41 = .ok (.getfield 38, 3) := by decide +kernel
theorem dX4_swap_44 : decode cX4_swap 44 = .ok (.iload_n 1, 1) := by decide +kernel
theorem dX4_swap_45 : decode cX4_swap 45 = .ok (.iload_n 3, 1) := by decide +kernel
theorem dX4_swap_46 : decode cX4_swap 46 = .ok (.invokevirtual 95, 3) := by decide +kernel
theorem dX4_swap_49 : decode cX4_swap 49 = .ok (.iload_n 3, 1) := by decide +kernel
theorem dX4_swap_50 : decode cX4_swap 50 = .ok (.ireturn, 1) := by decide +kernel
theorem dX4_told_0 : decode cX4_told 0 = .ok (.iload_n 2, 1) := by decide +kernel
theorem dX4_told_1 : decode cX4_told 1 = .ok (.ifCond .ne 11, 3) := by decide +kernel
theorem dX4_told_4 : decode cX4_told 4 = .ok (.aload_n 0, 1) := by decide +kernel
theorem dX4_told_5 : decode cX4_told 5 = .ok (.getfield 38, 3) := by decide +kernel
theorem dX4_told_8 : decode cX4_told 8 = .ok (.getfield 67, 3) := by decide +kernel
theorem dX4_told_11 : decode cX4_told 11 = .ok (.ireturn, 1) := by decide +kernel
theorem dX4_told_12 : decode cX4_told 12 = .ok (.iload_n 2, 1) := by decide +kernel
theorem dX4_told_13 : decode cX4_told 13 = .ok (.iconst 1, 1) := by decide +kernel
theorem dX4_told_14 : decode cX4_told 14 = .ok (.if_icmp .ne 11, 3) := by decide +kernel
theorem dX4_told_17 : decode cX4_told 17 = .ok (.aload_n 0, 1) := by decide +kernel
theorem dX4_told_18 : decode cX4_told 18 = .ok (.getfield 38, 3) := by decide +kernel
theorem dX4_told_21 : decode cX4_told 21 = .ok (.getfield 71, 3) := by decide +kernel
theorem dX4_told_24 : decode cX4_told 24 = .ok (.ireturn, 1) := by decide +kernel
theorem dX4_told_25 : decode cX4_told 25 = .ok (.iload_n 2, 1) := by decide +kernel
theorem dX4_told_26 : decode cX4_told 26 = .ok (.iconst 3, 1) := by decide +kernel
theorem dX4_told_27 : decode cX4_told 27 = .ok (.if_icmp .eq 9, 3) := by decide +kernel
theorem dX4_told_30 : decode cX4_told 30 = .ok (.iload_n 2, 1) := by decide +kernel
theorem dX4_told_31 : decode cX4_told 31 = .ok (.bipush 7, 2) := by decide +kernel
theorem dX4_told_33 : decode cX4_told 33 = .ok (.if_icmp .lt 27, 3) := by decide +kernel
theorem dX4_told_36 : decode cX4_told 36 = .ok (.aload_n 0, 1) := by decide +kernel
theorem dX4_told_37 : decode cX4_told 37 = .ok (.getfield 38, 3) := by decide +kernel
theorem dX4_told_40 : decode cX4_told 40 = .ok (.iload_n 1, 1) := by decide +kernel
theorem dX4_told_41 : decode cX4_told 41 = .ok (.invokevirtual 98, 3) := by decide +kernel
theorem dX4_told_44 : decode cX4_told 44 = .ok (.ifCond .eq 12, 3) := by decide +kernel
theorem dX4_told_47 : decode cX4_told 47 = .ok (.aload_n 0, 1) := by decide +kernel
theorem dX4_told_48 : decode cX4_told 48 = .ok (.iload_n 1, 1) := by decide +kernel
theorem dX4_told_49 : decode cX4_told 49 = .ok (.iload_n 2, 1) := by decide +kernel
theorem dX4_told_50 : decode cX4_told 50 = .ok (.invokevirtual 102, 3) := by decide +kernel
theorem dX4_told_53 : decode cX4_told 53 = .ok (.goto 6, 3) := by decide +kernel
theorem dX4_told_56 : decode cX4_told 56 = .ok (.sipush (-1000), 3) := by decide +kernel
theorem dX4_told_59 : decode cX4_told 59 = .ok (.ireturn, 1) := by decide +kernel
theorem dX4_told_60 : decode cX4_told 60 = .ok (.aload_n 0, 1) := by decide +kernel
theorem dX4_told_61 : decode cX4_told 61 = .ok (.getfield 38, 3) := by decide +kernel
theorem dX4_told_64 : decode cX4_told 64 = .ok (.iload_n 1, 1) := by decide +kernel
theorem dX4_told_65 : decode cX4_told 65 = .ok (.invokevirtual 105, 3) := by decide +kernel
theorem dX4_told_68 : decode cX4_told 68 = .ok (.ifCond .eq 12, 3) := by decide +kernel
theorem dX4_told_71 : decode cX4_told 71 = .ok (.aload_n 0, 1) := by decide +kernel
theorem dX4_told_72 : decode cX4_told 72 = .ok (.iload_n 1, 1) := by decide +kernel
theorem dX4_told_73 : decode cX4_told 73 = .ok (.iload_n 2, 1) := by decide +kernel
theorem dX4_told_74 : decode cX4_told 74 = .ok (.invokevirtual 108, 3) := by decide +kernel
theorem dX4_told_77 : decode cX4_told 77 = .ok (.goto 6, 3) := by decide +kernel
theorem dX4_told_80 : decode cX4_told 80 = .ok (.sipush (-1000), 3) := by decide +kernel
theorem dX4_told_83 : decode cX4_told 83 = .ok (.ireturn, 1) := by decide +kernel
theorem dX4_asks_0 : decode cX4_asks 0 = .ok (.aload_n 0, 1) := by decide +kernel
theorem dX4_asks_1 : decode cX4_asks 1 = .ok (.getfield 38, 3) := by decide +kernel
theorem dX4_asks_4 : decode cX4_asks 4 = .ok (.iload_n 1, 1) := by decide +kernel
theorem dX4_asks_5 : decode cX4_asks 5 = .ok (.invokevirtual 105, 3) := by decide +kernel
theorem dX4_asks_8 : decode cX4_asks 8 = .ok (.ifCond .eq 23, 3) := by decide +kernel
theorem dX4_asks_11 : decode cX4_asks 11 = .ok (.aload_n 0, 1) := by decide +kernel
theorem dX4_asks_12 : decode cX4_asks 12 = .ok (.getfield 38, 3) := by decide +kernel
theorem dX4_asks_15 : decode cX4_asks 15 = .ok (.iload_n 2, 1) := by decide +kernel
theorem dX4_asks_16 : decode cX4_asks 16 = .ok (.invokevirtual 98, 3) := by decide +kernel
theorem dX4_asks_19 : decode cX4_asks 19 = .ok (.ifCond .eq 12, 3) := by decide +kernel
theorem dX4_asks_22 : decode cX4_asks 22 = .ok (.iload_n 3, 1) := by decide +kernel
theorem dX4_asks_23 : decode cX4_asks 23 = .ok (.ifCond .lt 8, 3) := by decide +kernel
theorem dX4_asks_26 : decode cX4_asks 26 = .ok (.iload_n 3, 1) := by decide +kernel
theorem dX4_asks_27 : decode cX4_asks 27 = .ok (.iconst 1, 1) := by decide +kernel
theorem dX4_asks_28 : decode cX4_asks 28 = .ok (.if_icmp .le 7, 3) := by decide +kernel
theorem dX4_asks_31 : decode cX4_asks 31 = .ok (.sipush (-1000), 3) := by decide +kernel
theorem dX4_asks_34 : decode cX4_asks 34 = .ok (.ireturn, 1) := by decide +kernel
theorem dX4_asks_35 : decode cX4_asks 35 = .ok (.iload_n 3, 1) := by decide +kernel
theorem dX4_asks_36 : decode cX4_asks 36 = .ok (.iconst 1, 1) := by decide +kernel
theorem dX4_asks_37 : decode cX4_asks 37 = .ok (.if_icmp .ne 13, 3) := by decide +kernel
theorem dX4_asks_40 : decode cX4_asks 40 = .ok (.aload_n 0, 1) := by decide +kernel
theorem dX4_asks_41 : decode cX4_asks 41 = .ok (.getfield 38, 3) := by decide +kernel
theorem dX4_asks_44 : decode cX4_asks 44 = .ok (.iload_n 1, 1) := by decide +kernel
theorem dX4_asks_45 : decode cX4_asks 45 = .ok (.iload_n 2, 1) := by decide +kernel
theorem dX4_asks_46 : decode cX4_asks 46 = .ok (.invokevirtual 111, 3) := by decide +kernel
theorem dX4_asks_49 : decode cX4_asks 49 = .ok (.ireturn, 1) := by decide +kernel
theorem dX4_asks_50 : decode cX4_asks 50 = .ok (.aload_n 0, 1) := by decide +kernel
theorem dX4_asks_51 : decode cX4_asks 51 = .ok (.getfield 38, 3) := by decide +kernel
theorem dX4_asks_54 : decode cX4_asks 54 = .ok (.iload_n 1, 1) := by decide +kernel
theorem dX4_asks_55 : decode cX4_asks 55 = .ok (.iload_n 2, 1) := by decide +kernel
theorem dX4_asks_56 : decode cX4_asks 56 = .ok (.invokevirtual 114, 3) := by decide +kernel
theorem dX4_asks_59 : decode cX4_asks 59 = .ok (.ifCond .eq 7, 3) := by decide +kernel
theorem dX4_asks_62 : decode cX4_asks 62 = .ok (.iconst 1, 1) := by decide +kernel
theorem dX4_asks_63 : decode cX4_asks 63 = .ok (.goto 4, 3) := by decide +kernel
theorem dX4_asks_66 : decode cX4_asks 66 = .ok (.iconst 0, 1) := by decide +kernel
theorem dX4_asks_67 : decode cX4_asks 67 = .ok (.ireturn, 1) := by decide +kernel
theorem dX4_writes_0 : decode cX4_writes 0 = .ok (.aload_n 0, 1) := by decide +kernel
theorem dX4_writes_1 : decode cX4_writes 1 = .ok (.getfield 38, 3) := by decide +kernel
theorem dX4_writes_4 : decode cX4_writes 4 = .ok (.iload_n 1, 1) := by decide +kernel
theorem dX4_writes_5 : decode cX4_writes 5 = .ok (.invokevirtual 105, 3) := by decide +kernel
theorem dX4_writes_8 : decode cX4_writes 8 = .ok (.ifCond .eq 14, 3) := by decide +kernel
theorem dX4_writes_11 : decode cX4_writes 11 = .ok (.aload_n 0, 1) := by decide +kernel
theorem dX4_writes_12 : decode cX4_writes 12 = .ok (.getfield 38, 3) := by decide +kernel
theorem dX4_writes_15 : decode cX4_writes 15 = .ok (.iload_n 1, 1) := by decide +kernel
theorem dX4_writes_16 : decode cX4_writes 16 = .ok (.invokevirtual 117, 3) := by decide +kernel
theorem dX4_writes_19 : decode cX4_writes 19 = .ok (.goto 5, 3) := by decide +kernel
theorem dX4_writes_22 : decode cX4_writes 22 = .ok (.bipush (-2), 2) := by decide +kernel
theorem dX4_writes_24 : decode cX4_writes 24 = .ok (.ireturn, 1) := by decide +kernel
theorem dX4_greatest_0 : decode cX4_greatest 0 = .ok (.iload_n 0, 1) := by decide +kernel
theorem dX4_greatest_1 : decode cX4_greatest 1 = .ok (.tableswitch 37 0 2 #[27, 31, 34], 27) := by decide +kernel
theorem dX4_greatest_28 : decode cX4_greatest 28 = .ok (.sipush 999, 3) := by decide +kernel
theorem dX4_greatest_31 : decode cX4_greatest 31 = .ok (.ireturn, 1) := by decide +kernel
theorem dX4_greatest_32 : decode cX4_greatest 32 = .ok (.bipush 7, 2) := by decide +kernel
theorem dX4_greatest_34 : decode cX4_greatest 34 = .ok (.ireturn, 1) := by decide +kernel
theorem dX4_greatest_35 : decode cX4_greatest 35 = .ok (.bipush 9, 2) := by decide +kernel
theorem dX4_greatest_37 : decode cX4_greatest 37 = .ok (.ireturn, 1) := by decide +kernel
theorem dX4_greatest_38 : decode cX4_greatest 38 = .ok (.bipush 99, 2) := by decide +kernel
theorem dX4_greatest_40 : decode cX4_greatest 40 = .ok (.ireturn, 1) := by decide +kernel
theorem dX4_toldOfOne_0 : decode cX4_toldOfOne 0 = .ok (.iload_n 2, 1) := by decide +kernel
theorem dX4_toldOfOne_1 : decode cX4_toldOfOne 1 = .ok (.tableswitch 71 2 6 #[35, 71, 44, 53, 62], 35) := by decide +kernel
theorem dX4_toldOfOne_36 : decode cX4_toldOfOne 36 = .ok (.aload_n 0, 1) := by decide +kernel
theorem dX4_toldOfOne_37 : decode cX4_toldOfOne 37 = .ok (.getfield 38, 3) := by decide +kernel
theorem dX4_toldOfOne_40 : decode cX4_toldOfOne 40 = .ok (.iload_n 1, 1) := by decide +kernel
theorem dX4_toldOfOne_41 : decode cX4_toldOfOne 41 = .ok (.invokevirtual 120, 3) := by decide +kernel
theorem dX4_toldOfOne_44 : decode cX4_toldOfOne 44 = .ok (.ireturn, 1) := by decide +kernel
theorem dX4_toldOfOne_45 : decode cX4_toldOfOne 45 = .ok (.aload_n 0, 1) := by decide +kernel
theorem dX4_toldOfOne_46 : decode cX4_toldOfOne 46 = .ok (.getfield 38, 3) := by decide +kernel
theorem dX4_toldOfOne_49 : decode cX4_toldOfOne 49 = .ok (.iload_n 1, 1) := by decide +kernel
theorem dX4_toldOfOne_50 : decode cX4_toldOfOne 50 = .ok (.invokevirtual 123, 3) := by decide +kernel
theorem dX4_toldOfOne_53 : decode cX4_toldOfOne 53 = .ok (.ireturn, 1) := by decide +kernel
theorem dX4_toldOfOne_54 : decode cX4_toldOfOne 54 = .ok (.aload_n 0, 1) := by decide +kernel
theorem dX4_toldOfOne_55 : decode cX4_toldOfOne 55 = .ok (.getfield 38, 3) := by decide +kernel
theorem dX4_toldOfOne_58 : decode cX4_toldOfOne 58 = .ok (.iload_n 1, 1) := by decide +kernel
theorem dX4_toldOfOne_59 : decode cX4_toldOfOne 59 = .ok (.invokevirtual 92, 3) := by decide +kernel
theorem dX4_toldOfOne_62 : decode cX4_toldOfOne 62 = .ok (.ireturn, 1) := by decide +kernel
theorem dX4_toldOfOne_63 : decode cX4_toldOfOne 63 = .ok (.aload_n 0, 1) := by decide +kernel
theorem dX4_toldOfOne_64 : decode cX4_toldOfOne 64 = .ok (.getfield 38, 3) := by decide +kernel
theorem dX4_toldOfOne_67 : decode cX4_toldOfOne 67 = .ok (.iload_n 1, 1) := by decide +kernel
theorem dX4_toldOfOne_68 : decode cX4_toldOfOne 68 = .ok (.invokevirtual 126, 3) := by decide +kernel
theorem dX4_toldOfOne_71 : decode cX4_toldOfOne 71 = .ok (.ireturn, 1) := by decide +kernel
theorem dX4_toldOfOne_72 : decode cX4_toldOfOne 72 = .ok (.sipush (-1000), 3) := by decide +kernel
theorem dX4_toldOfOne_75 : decode cX4_toldOfOne 75 = .ok (.ireturn, 1) := by decide +kernel
theorem dX4_toldOfLetter_0 : decode cX4_toldOfLetter 0 = .ok (.iload_n 2, 1) := by decide +kernel
theorem dX4_toldOfLetter_1 : decode cX4_toldOfLetter 1 = .ok (.tableswitch 92 3 10 #[47, 92, 92, 92, 56, 65, 74, 83], 47) := by decide +kernel
theorem dX4_toldOfLetter_48 : decode cX4_toldOfLetter 48 = .ok (.aload_n 0, 1) := by decide +kernel
theorem dX4_toldOfLetter_49 : decode cX4_toldOfLetter 49 = .ok (.getfield 38, 3) := by decide +kernel
theorem dX4_toldOfLetter_52 : decode cX4_toldOfLetter 52 = .ok (.iload_n 1, 1) := by decide +kernel
theorem dX4_toldOfLetter_53 : decode cX4_toldOfLetter 53 = .ok (.invokevirtual 129, 3) := by decide +kernel
theorem dX4_toldOfLetter_56 : decode cX4_toldOfLetter 56 = .ok (.ireturn, 1) := by decide +kernel
theorem dX4_toldOfLetter_57 : decode cX4_toldOfLetter 57 = .ok (.aload_n 0, 1) := by decide +kernel
theorem dX4_toldOfLetter_58 : decode cX4_toldOfLetter 58 = .ok (.getfield 38, 3) := by decide +kernel
theorem dX4_toldOfLetter_61 : decode cX4_toldOfLetter 61 = .ok (.iload_n 1, 1) := by decide +kernel
theorem dX4_toldOfLetter_62 : decode cX4_toldOfLetter 62 = .ok (.invokevirtual 132, 3) := by decide +kernel
theorem dX4_toldOfLetter_65 : decode cX4_toldOfLetter 65 = .ok (.ireturn, 1) := by decide +kernel
theorem dX4_toldOfLetter_66 : decode cX4_toldOfLetter 66 = .ok (.aload_n 0, 1) := by decide +kernel
theorem dX4_toldOfLetter_67 : decode cX4_toldOfLetter 67 = .ok (.getfield 38, 3) := by decide +kernel
theorem dX4_toldOfLetter_70 : decode cX4_toldOfLetter 70 = .ok (.iload_n 1, 1) := by decide +kernel
theorem dX4_toldOfLetter_71 : decode cX4_toldOfLetter 71 = .ok (.invokevirtual 135, 3) := by decide +kernel
theorem dX4_toldOfLetter_74 : decode cX4_toldOfLetter 74 = .ok (.ireturn, 1) := by decide +kernel
theorem dX4_toldOfLetter_75 : decode cX4_toldOfLetter 75 = .ok (.aload_n 0, 1) := by decide +kernel
theorem dX4_toldOfLetter_76 : decode cX4_toldOfLetter 76 = .ok (.getfield 38, 3) := by decide +kernel
theorem dX4_toldOfLetter_79 : decode cX4_toldOfLetter 79 = .ok (.iload_n 1, 1) := by decide +kernel
theorem dX4_toldOfLetter_80 : decode cX4_toldOfLetter 80 = .ok (.invokevirtual 138, 3) := by decide +kernel
theorem dX4_toldOfLetter_83 : decode cX4_toldOfLetter 83 = .ok (.ireturn, 1) := by decide +kernel
theorem dX4_toldOfLetter_84 : decode cX4_toldOfLetter 84 = .ok (.aload_n 0, 1) := by decide +kernel
theorem dX4_toldOfLetter_85 : decode cX4_toldOfLetter 85 = .ok (.getfield 38, 3) := by decide +kernel
theorem dX4_toldOfLetter_88 : decode cX4_toldOfLetter 88 = .ok (.iload_n 1, 1) := by decide +kernel
theorem dX4_toldOfLetter_89 : decode cX4_toldOfLetter 89 = .ok (.invokevirtual 141, 3) := by decide +kernel
theorem dX4_toldOfLetter_92 : decode cX4_toldOfLetter 92 = .ok (.ireturn, 1) := by decide +kernel
theorem dX4_toldOfLetter_93 : decode cX4_toldOfLetter 93 = .ok (.sipush (-1000), 3) := by decide +kernel
theorem dX4_toldOfLetter_96 : decode cX4_toldOfLetter 96 = .ok (.ireturn, 1) := by decide +kernel
theorem dX4_feed_0 : decode cX4_feed 0 = .ok (.iload_n 1, 1) := by decide +kernel
theorem dX4_feed_1 : decode cX4_feed 1 = .ok (.ifCond .lt 10, 3) := by decide +kernel
theorem dX4_feed_4 : decode cX4_feed 4 = .ok (.iload_n 1, 1) := by decide +kernel
theorem dX4_feed_5 : decode cX4_feed 5 = .ok (.sipush 255, 3) := by decide +kernel
theorem dX4_feed_8 : decode cX4_feed 8 = .ok (.if_icmp .le 6, 3) := by decide +kernel
theorem dX4_feed_11 : decode cX4_feed 11 = .ok (.bipush (-2), 2) := by decide +kernel
theorem dX4_feed_13 : decode cX4_feed 13 = .ok (.ireturn, 1) := by decide +kernel
theorem dX4_feed_14 : decode cX4_feed 14 = .ok (.aload_n 0, 1) := by decide +kernel
theorem dX4_feed_15 : decode cX4_feed 15 = .ok (.getfield 21, 3) := by decide +kernel
theorem dX4_feed_18 : decode cX4_feed 18 = .ok (.iload_n 1, 1) := by decide +kernel
theorem dX4_feed_19 : decode cX4_feed 19 = .ok (.invokevirtual 144, 3) := by decide +kernel
theorem dX4_feed_22 : decode cX4_feed 22 = .ok (.ifCond .eq 13, 3) := by decide +kernel
theorem dX4_feed_25 : decode cX4_feed 25 = .ok (.aload_n 0, 1) := by decide +kernel
theorem dX4_feed_26 : decode cX4_feed 26 = .ok (.getfield 21, 3) := by decide +kernel
theorem dX4_feed_29 : decode cX4_feed 29 = .ok (.getfield 147, 3) := by decide +kernel
theorem dX4_feed_32 : decode cX4_feed 32 = .ok (.goto 5, 3) := by decide +kernel
theorem dX4_feed_35 : decode cX4_feed 35 = .ok (.bipush (-4), 2) := by decide +kernel
theorem dX4_feed_37 : decode cX4_feed 37 = .ok (.ireturn, 1) := by decide +kernel
theorem dX4_text_0 : decode cX4_text 0 = .ok (.aload_n 0, 1) := by decide +kernel
theorem dX4_text_1 : decode cX4_text 1 = .ok (.getfield 10, 3) := by decide +kernel
theorem dX4_text_4 : decode cX4_text 4 = .ok (.invokevirtual 150, 3) := by decide +kernel
theorem dX4_text_7 : decode cX4_text 7 = .ok (.ifCond .ne 6, 3) := by decide +kernel
theorem dX4_text_10 : decode cX4_text 10 = .ok (.bipush (-4), 2) := by decide +kernel
theorem dX4_text_12 : decode cX4_text 12 = .ok (.ireturn, 1) := by decide +kernel
theorem dX4_text_13 : decode cX4_text 13 = .ok (.aload_n 0, 1) := by decide +kernel
theorem dX4_text_14 : decode cX4_text 14 = .ok (.getfield 21, 3) := by decide +kernel
theorem dX4_text_17 : decode cX4_text 17 = .ok (.invokevirtual 31, 3) := by decide +kernel
theorem dX4_text_20 : decode cX4_text 20 = .ok (.istore_n 1, 1) := by decide +kernel
theorem dX4_text_21 : decode cX4_text 21 = .ok (.iload_n 1, 1) := by decide +kernel
theorem dX4_text_22 : decode cX4_text 22 = .ok (.iconst (-1), 1) := by decide +kernel
theorem dX4_text_23 : decode cX4_text 23 = .ok (.if_icmp .ne 15, 3) := by decide +kernel
theorem dX4_text_26 : decode cX4_text 26 = .ok (.aload_n 0, 1) := by decide +kernel
theorem dX4_text_27 : decode cX4_text 27 = .ok (.getfield 10, 3) := by decide +kernel
theorem dX4_text_30 : decode cX4_text 30 = .ok (.getfield 154, 3) := by decide +kernel
theorem dX4_text_33 : decode cX4_text 33 = .ok (.iconst 1, 1) := by decide +kernel
theorem dX4_text_34 : decode cX4_text 34 = .ok (.isub, 1) := by decide +kernel
theorem dX4_text_35 : decode cX4_text 35 = .ok (.goto 7, 3) := by decide +kernel
theorem dX4_text_38 : decode cX4_text 38 = .ok (.bipush (-100), 2) := by decide +kernel
theorem dX4_text_40 : decode cX4_text 40 = .ok (.iload_n 1, 1) := by decide +kernel
theorem dX4_text_41 : decode cX4_text 41 = .ok (.isub, 1) := by decide +kernel
theorem dX4_text_42 : decode cX4_text 42 = .ok (.ireturn, 1) := by decide +kernel
theorem dX4_force_0 : decode cX4_force 0 = .ok (.aload_n 0, 1) := by decide +kernel
theorem dX4_force_1 : decode cX4_force 1 = .ok (.getfield 10, 3) := by decide +kernel
theorem dX4_force_4 : decode cX4_force 4 = .ok (.iload_n 1, 1) := by decide +kernel
theorem dX4_force_5 : decode cX4_force 5 = .ok (.invokevirtual 155, 3) := by decide +kernel
theorem dX4_force_8 : decode cX4_force 8 = .ok (.ifCond .ne 6, 3) := by decide +kernel
theorem dX4_force_11 : decode cX4_force 11 = .ok (.bipush (-2), 2) := by decide +kernel
theorem dX4_force_13 : decode cX4_force 13 = .ok (.ireturn, 1) := by decide +kernel
theorem dX4_force_14 : decode cX4_force 14 = .ok (.aload_n 0, 1) := by decide +kernel
theorem dX4_force_15 : decode cX4_force 15 = .ok (.getfield 38, 3) := by decide +kernel
theorem dX4_force_18 : decode cX4_force 18 = .ok (.getfield 158, 3) := by decide +kernel
theorem dX4_force_21 : decode cX4_force 21 = .ok (.istore_n 2, 1) := by decide +kernel
theorem dX4_force_22 : decode cX4_force 22 = .ok (.aload_n 0, 1) := by decide +kernel
theorem dX4_force_23 : decode cX4_force 23 = .ok (.getfield 38, 3) := by decide +kernel
theorem dX4_force_26 : decode cX4_force 26 = .ok (.iload_n 1, 1) := by decide +kernel
theorem dX4_force_27 : decode cX4_force 27 = .ok (.putfield 158, 3) := by decide +kernel
theorem dX4_force_30 : decode cX4_force 30 = .ok (.iload_n 2, 1) := by decide +kernel
theorem dX4_force_31 : decode cX4_force 31 = .ok (.ireturn, 1) := by decide +kernel
theorem dX4_send_0 : decode cX4_send 0 = .ok (.aload_n 0, 1) := by decide +kernel
theorem dX4_send_1 : decode cX4_send 1 = .ok (.getfield 38, 3) := by decide +kernel
theorem dX4_send_4 : decode cX4_send 4 = .ok (.iload_n 1, 1) := by decide +kernel
theorem dX4_send_5 : decode cX4_send 5 = .ok (.iload_n 2, 1) := by decide +kernel
theorem dX4_send_6 : decode cX4_send 6 = .ok (.invokevirtual 88, 3) := by decide +kernel
theorem dX4_send_9 : decode cX4_send 9 = .ok (.ifCond .eq 15, 3) := by decide +kernel
theorem dX4_send_12 : decode cX4_send 12 = .ok (.aload_n 0, 1) := by decide +kernel
theorem dX4_send_13 : decode cX4_send 13 = .ok (.getfield 38, 3) := by decide +kernel
theorem dX4_send_16 : decode cX4_send 16 = .ok (.iload_n 1, 1) := by decide +kernel
theorem dX4_send_17 : decode cX4_send 17 = .ok (.iload_n 2, 1) := by decide +kernel
theorem dX4_send_18 : decode cX4_send 18 = .ok (.invokevirtual 161, 3) := by decide +kernel
theorem dX4_send_21 : decode cX4_send 21 = .ok (.goto 5, 3) := by decide +kernel
theorem dX4_send_24 : decode cX4_send 24 = .ok (.bipush (-2), 2) := by decide +kernel
theorem dX4_send_26 : decode cX4_send 26 = .ok (.ireturn, 1) := by decide +kernel
theorem dX4_day_0 : decode cX4_day 0 = .ok (.aload_n 0, 1) := by decide +kernel
theorem dX4_day_1 : decode cX4_day 1 = .ok (.getfield 38, 3) := by decide +kernel
theorem dX4_day_4 : decode cX4_day 4 = .ok (.getfield 67, 3) := by decide +kernel
theorem dX4_day_7 : decode cX4_day 7 = .ok (.sipush 999, 3) := by decide +kernel
theorem dX4_day_10 : decode cX4_day 10 = .ok (.if_icmp .lt 8, 3) := by decide +kernel
theorem dX4_day_13 : decode cX4_day 13 = .ok (.bipush (-3), 2) := by decide +kernel
theorem dX4_day_15 : decode cX4_day 15 = .ok (.goto 10, 3) := by decide +kernel
theorem dX4_day_18 : decode cX4_day 18 = .ok (.aload_n 0, 1) := by decide +kernel
theorem dX4_day_19 : decode cX4_day 19 = .ok (.getfield 38, 3) := by decide +kernel
theorem dX4_day_22 : decode cX4_day 22 = .ok (.invokevirtual 164, 3) := by decide +kernel
theorem dX4_day_25 : decode cX4_day 25 = .ok (.ireturn, 1) := by decide +kernel
theorem dX4_run_0 : decode cX4_run 0 = .ok (.aload_n 0, 1) := by decide +kernel
theorem dX4_run_1 : decode cX4_run 1 = .ok (.getfield 38, 3) := by decide +kernel
theorem dX4_run_4 : decode cX4_run 4 = .ok (.iload_n 1, 1) := by decide +kernel
theorem dX4_run_5 : decode cX4_run 5 = .ok (.invokevirtual 98, 3) := by decide +kernel
theorem dX4_run_8 : decode cX4_run 8 = .ok (.ifCond .eq 22, 3) := by decide +kernel
theorem dX4_run_11 : decode cX4_run 11 = .ok (.iload_n 2, 1) := by decide +kernel
theorem dX4_run_12 : decode cX4_run 12 = .ok (.ifCond .lt 18, 3) := by decide +kernel
theorem dX4_run_15 : decode cX4_run 15 = .ok (.iload_n 2, 1) := by decide +kernel
theorem dX4_run_16 : decode cX4_run 16 = .ok (.bipush 40, 2) := by decide +kernel
theorem dX4_run_18 : decode cX4_run 18 = .ok (.if_icmp .gt 12, 3) := by decide +kernel
theorem dX4_run_21 : decode cX4_run 21 = .ok (.iload_n 3, 1) := by decide +kernel
theorem dX4_run_22 : decode cX4_run 22 = .ok (.ifCond .lt 8, 3) := by decide +kernel
theorem dX4_run_25 : decode cX4_run 25 = .ok (.iload_n 3, 1) := by decide +kernel
theorem dX4_run_26 : decode cX4_run 26 = .ok (.iconst 3, 1) := by decide +kernel
theorem dX4_run_27 : decode cX4_run 27 = .ok (.if_icmp .le 6, 3) := by decide +kernel
theorem dX4_run_30 : decode cX4_run 30 = .ok (.bipush (-2), 2) := by decide +kernel
theorem dX4_run_32 : decode cX4_run 32 = .ok (.ireturn, 1) := by decide +kernel
theorem dX4_run_33 : decode cX4_run 33 = .ok (.aload_n 0, 1) := by decide +kernel
theorem dX4_run_34 : decode cX4_run 34 = .ok (.getfield 42, 3) := by decide +kernel
theorem dX4_run_37 : decode cX4_run 37 = .ok (.aload_n 0, 1) := by decide +kernel
theorem dX4_run_38 : decode cX4_run 38 = .ok (.getfield 38, 3) := by decide +kernel
theorem dX4_run_41 : decode cX4_run 41 = .ok (.invokevirtual 167, 3) := by decide +kernel
theorem dX4_run_44 : decode cX4_run 44 = .ok (.aload_n 0, 1) := by decide +kernel
theorem dX4_run_45 : decode cX4_run 45 = .ok (.getfield 42, 3) := by decide +kernel
theorem dX4_run_48 : decode cX4_run 48 = .ok (.iload_n 2, 1) := by decide +kernel
theorem dX4_run_49 : decode cX4_run 49 = .ok (.invokevirtual 171, 3) := by decide +kernel
theorem dX4_run_52 : decode cX4_run 52 = .ok (.iload_n 3, 1) := by decide +kernel
theorem dX4_run_53 : decode cX4_run 53 = .ok (.tableswitch 54 0 2 #[27, 36, 45], 27) := by decide +kernel
theorem dX4_run_80 : decode cX4_run 80 = .ok (.aload_n 0, 1) := by decide +kernel
theorem dX4_run_81 : decode cX4_run 81 = .ok (.getfield 42, 3) := by decide +kernel
theorem dX4_run_84 : decode cX4_run 84 = .ok (.iload_n 1, 1) := by decide +kernel
theorem dX4_run_85 : decode cX4_run 85 = .ok (.invokevirtual 138, 3) := by decide +kernel
theorem dX4_run_88 : decode cX4_run 88 = .ok (.ireturn, 1) := by decide +kernel
theorem dX4_run_89 : decode cX4_run 89 = .ok (.aload_n 0, 1) := by decide +kernel
theorem dX4_run_90 : decode cX4_run 90 = .ok (.getfield 42, 3) := by decide +kernel
theorem dX4_run_93 : decode cX4_run 93 = .ok (.iload_n 1, 1) := by decide +kernel
theorem dX4_run_94 : decode cX4_run 94 = .ok (.invokevirtual 129, 3) := by decide +kernel
theorem dX4_run_97 : decode cX4_run 97 = .ok (.ireturn, 1) := by decide +kernel
theorem dX4_run_98 : decode cX4_run 98 = .ok (.aload_n 0, 1) := by decide +kernel
theorem dX4_run_99 : decode cX4_run 99 = .ok (.getfield 42, 3) := by decide +kernel
theorem dX4_run_102 : decode cX4_run 102 = .ok (.iload_n 1, 1) := by decide +kernel
theorem dX4_run_103 : decode cX4_run 103 = .ok (.invokevirtual 141, 3) := by decide +kernel
theorem dX4_run_106 : decode cX4_run 106 = .ok (.ireturn, 1) := by decide +kernel
theorem dX4_run_107 : decode cX4_run 107 = .ok (.aload_n 0, 1) := by decide +kernel
theorem dX4_run_108 : decode cX4_run 108 = .ok (.getfield 42, 3) := by decide +kernel
theorem dX4_run_111 : decode cX4_run 111 = .ok (.invokevirtual 175, 3) := by decide +kernel
theorem dX4_run_114 : decode cX4_run 114 = .ok (.ireturn, 1) := by decide +kernel
theorem dX4_comes_0 : decode cX4_comes 0 = .ok (.aload_n 0, 1) := by decide +kernel
theorem dX4_comes_1 : decode cX4_comes 1 = .ok (.getfield 38, 3) := by decide +kernel
theorem dX4_comes_4 : decode cX4_comes 4 = .ok (.iload_n 1, 1) := by decide +kernel
theorem dX4_comes_5 : decode cX4_comes 5 = .ok (.invokevirtual 98, 3) := by decide +kernel
theorem dX4_comes_8 : decode cX4_comes 8 = .ok (.ifCond .ne 6, 3) := by decide +kernel
theorem dX4_comes_11 : decode cX4_comes 11 = .ok (.bipush (-2), 2) := by decide +kernel
theorem dX4_comes_13 : decode cX4_comes 13 = .ok (.ireturn, 1) := by decide +kernel
theorem dX4_comes_14 : decode cX4_comes 14 = .ok (.aload_n 0, 1) := by decide +kernel
theorem dX4_comes_15 : decode cX4_comes 15 = .ok (.getfield 42, 3) := by decide +kernel
theorem dX4_comes_18 : decode cX4_comes 18 = .ok (.aload_n 0, 1) := by decide +kernel
theorem dX4_comes_19 : decode cX4_comes 19 = .ok (.getfield 38, 3) := by decide +kernel
theorem dX4_comes_22 : decode cX4_comes 22 = .ok (.invokevirtual 167, 3) := by decide +kernel
theorem dX4_comes_25 : decode cX4_comes 25 = .ok (.iconst 0, 1) := by decide +kernel
theorem dX4_comes_26 : decode cX4_comes 26 = .ok (.istore_n 2, 1) := by decide +kernel
theorem dX4_comes_27 : decode cX4_comes 27 = .ok (.iload_n 2, 1) := by decide +kernel
theorem dX4_comes_28 : decode cX4_comes 28 = .ok (.bipush 60, 2) := by decide +kernel
theorem dX4_comes_30 : decode cX4_comes 30 = .ok (.if_icmp .gt 31, 3) := by decide +kernel
theorem dX4_comes_33 : decode cX4_comes 33 = .ok (.aload_n 0, 1) := by decide +kernel
theorem dX4_comes_34 : decode cX4_comes 34 = .ok (.getfield 42, 3) := by decide +kernel
theorem dX4_comes_37 : decode cX4_comes 37 = .ok (.iload_n 1, 1) := by decide +kernel
theorem dX4_comes_38 : decode cX4_comes 38 = .ok (.invokevirtual 138, 3) := by decide +kernel
theorem dX4_comes_41 : decode cX4_comes 41 = .ok (.iconst (-1), 1) := by decide +kernel
theorem dX4_comes_42 : decode cX4_comes 42 = .ok (.if_icmp .ne 5, 3) := by decide +kernel
theorem dX4_comes_45 : decode cX4_comes 45 = .ok (.iload_n 2, 1) := by decide +kernel
theorem dX4_comes_46 : decode cX4_comes 46 = .ok (.ireturn, 1) := by decide +kernel
theorem dX4_comes_47 : decode cX4_comes 47 = .ok (.aload_n 0, 1) := by decide +kernel
theorem dX4_comes_48 : decode cX4_comes 48 = .ok (.getfield 42, 3) := by decide +kernel
theorem dX4_comes_51 : decode cX4_comes 51 = .ok (.iload_n 1, 1) := by decide +kernel
theorem dX4_comes_52 : decode cX4_comes 52 = .ok (.invokevirtual 178, 3) := by decide +kernel
theorem dX4_comes_55 : decode cX4_comes 55 = .ok (.iinc 2 1, 3) := by decide +kernel
theorem dX4_comes_58 : decode cX4_comes 58 = .ok (.goto (-31), 3) := by decide +kernel
theorem dX4_comes_61 : decode cX4_comes 61 = .ok (.iconst (-1), 1) := by decide +kernel
theorem dX4_comes_62 : decode cX4_comes 62 = .ok (.ireturn, 1) := by decide +kernel
theorem dX4_mistake_0 : decode cX4_mistake 0 = .ok (.iload_n 1, 1) := by decide +kernel
theorem dX4_mistake_1 : decode cX4_mistake 1 = .ok (.ifCond .lt 18, 3) := by decide +kernel
theorem dX4_mistake_4 : decode cX4_mistake 4 = .ok (.iload_n 1, 1) := by decide +kernel
theorem dX4_mistake_5 : decode cX4_mistake 5 = .ok (.bipush 40, 2) := by decide +kernel
theorem dX4_mistake_7 : decode cX4_mistake 7 = .ok (.if_icmp .gt 12, 3) := by decide +kernel
theorem dX4_mistake_10 : decode cX4_mistake 10 = .ok (.iload_n 2, 1) := by decide +kernel
theorem dX4_mistake_11 : decode cX4_mistake 11 = .ok (.ifCond .lt 8, 3) := by decide +kernel
theorem dX4_mistake_14 : decode cX4_mistake 14 = .ok (.iload_n 2, 1) := by decide +kernel
theorem dX4_mistake_15 : decode cX4_mistake 15 = .ok (.iconst 1, 1) := by decide +kernel
theorem dX4_mistake_16 : decode cX4_mistake 16 = .ok (.if_icmp .le 6, 3) := by decide +kernel
theorem dX4_mistake_19 : decode cX4_mistake 19 = .ok (.bipush (-2), 2) := by decide +kernel
theorem dX4_mistake_21 : decode cX4_mistake 21 = .ok (.ireturn, 1) := by decide +kernel
theorem dX4_mistake_22 : decode cX4_mistake 22 = .ok (.iconst 0, 1) := by decide +kernel
theorem dX4_mistake_23 : decode cX4_mistake 23 = .ok (.istore_n 3, 1) := by decide +kernel
theorem dX4_mistake_24 : decode cX4_mistake 24 = .ok (.iconst (-1), 1) := by decide +kernel
theorem dX4_mistake_25 : decode cX4_mistake 25 = .ok (.istore 4, 2) := by decide +kernel
theorem dX4_mistake_27 : decode cX4_mistake 27 = .ok (.iconst 0, 1) := by decide +kernel
theorem dX4_mistake_28 : decode cX4_mistake 28 = .ok (.istore 5, 2) := by decide +kernel
theorem dX4_mistake_30 : decode cX4_mistake 30 = .ok (.iload 5, 2) := by decide +kernel
theorem dX4_mistake_32 : decode cX4_mistake 32 = .ok (.bipush 8, 2) := by decide +kernel
theorem dX4_mistake_34 : decode cX4_mistake 34 = .ok (.if_icmp .ge 60, 3) := by decide +kernel
theorem dX4_mistake_37 : decode cX4_mistake 37 = .ok (.aload_n 0, 1) := by decide +kernel
theorem dX4_mistake_38 : decode cX4_mistake 38 = .ok (.getfield 42, 3) := by decide +kernel
theorem dX4_mistake_41 : decode cX4_mistake 41 = .ok (.aload_n 0, 1) := by decide +kernel
theorem dX4_mistake_42 : decode cX4_mistake 42 = .ok (.getfield 38, 3) := by decide +kernel
theorem dX4_mistake_45 : decode cX4_mistake 45 = .ok (.invokevirtual 167, 3) := by decide +kernel
theorem dX4_mistake_48 : decode cX4_mistake 48 = .ok (.aload_n 0, 1) := by decide +kernel
theorem dX4_mistake_49 : decode cX4_mistake 49 = .ok (.getfield 42, 3) := by decide +kernel
theorem dX4_mistake_52 : decode cX4_mistake 52 = .ok (.iload 5, 2) := by decide +kernel
theorem dX4_mistake_54 : decode cX4_mistake 54 = .ok (.invokevirtual 181, 3) := by decide +kernel
theorem dX4_mistake_57 : decode cX4_mistake 57 = .ok (.aload_n 0, 1) := by decide +kernel
theorem dX4_mistake_58 : decode cX4_mistake 58 = .ok (.getfield 42, 3) := by decide +kernel
theorem dX4_mistake_61 : decode cX4_mistake 61 = .ok (.iload_n 1, 1) := by decide +kernel
theorem dX4_mistake_62 : decode cX4_mistake 62 = .ok (.invokevirtual 171, 3) := by decide +kernel
theorem dX4_mistake_65 : decode cX4_mistake 65 = .ok (.aload_n 0, 1) := by decide +kernel
theorem dX4_mistake_66 : decode cX4_mistake 66 = .ok (.getfield 42, 3) := by decide +kernel
theorem dX4_mistake_69 : decode cX4_mistake 69 = .ok (.invokevirtual 175, 3) := by decide +kernel
theorem dX4_mistake_72 : decode cX4_mistake 72 = .ok (.istore 6, 2) := by decide +kernel
theorem dX4_mistake_74 : decode cX4_mistake 74 = .ok (.iload 6, 2) := by decide +kernel
theorem dX4_mistake_76 : decode cX4_mistake 76 = .ok (.iload 4, 2) := by decide +kernel
theorem dX4_mistake_78 : decode cX4_mistake 78 = .ok (.if_icmp .le 10, 3) := by decide +kernel
theorem dX4_mistake_81 : decode cX4_mistake 81 = .ok (.iload 6, 2) := by decide +kernel
theorem dX4_mistake_83 : decode cX4_mistake 83 = .ok (.istore 4, 2) := by decide +kernel
theorem dX4_mistake_85 : decode cX4_mistake 85 = .ok (.iload 5, 2) := by decide +kernel
theorem dX4_mistake_87 : decode cX4_mistake 87 = .ok (.istore_n 3, 1) := by decide +kernel
theorem dX4_mistake_88 : decode cX4_mistake 88 = .ok (.iinc 5 1, 3) := by decide +kernel
theorem dX4_mistake_91 : decode cX4_mistake 91 = .ok (.goto (-61), 3) := by decide +kernel
theorem dX4_mistake_94 : decode cX4_mistake 94 = .ok (.iload_n 2, 1) := by decide +kernel
theorem dX4_mistake_95 : decode cX4_mistake 95 = .ok (.ifCond .ne 7, 3) := by decide +kernel
theorem dX4_mistake_98 : decode cX4_mistake 98 = .ok (.iload_n 3, 1) := by decide +kernel
theorem dX4_mistake_99 : decode cX4_mistake 99 = .ok (.goto 5, 3) := by decide +kernel
theorem dX4_mistake_102 : decode cX4_mistake 102 = .ok (.iload 4, 2) := by decide +kernel
theorem dX4_mistake_104 : decode cX4_mistake 104 = .ok (.ireturn, 1) := by decide +kernel
theorem dX4_live_0 : decode cX4_live 0 = .ok (.iload_n 1, 1) := by decide +kernel
theorem dX4_live_1 : decode cX4_live 1 = .ok (.ifCond .lt 18, 3) := by decide +kernel
theorem dX4_live_4 : decode cX4_live 4 = .ok (.iload_n 1, 1) := by decide +kernel
theorem dX4_live_5 : decode cX4_live 5 = .ok (.bipush 20, 2) := by decide +kernel
theorem dX4_live_7 : decode cX4_live 7 = .ok (.if_icmp .gt 12, 3) := by decide +kernel
theorem dX4_live_10 : decode cX4_live 10 = .ok (.iload_n 2, 1) := by decide +kernel
theorem dX4_live_11 : decode cX4_live 11 = .ok (.ifCond .lt 8, 3) := by decide +kernel
theorem dX4_live_14 : decode cX4_live 14 = .ok (.iload_n 2, 1) := by decide +kernel
theorem dX4_live_15 : decode cX4_live 15 = .ok (.iconst 1, 1) := by decide +kernel
theorem dX4_live_16 : decode cX4_live 16 = .ok (.if_icmp .le 6, 3) := by decide +kernel
theorem dX4_live_19 : decode cX4_live 19 = .ok (.bipush (-2), 2) := by decide +kernel
theorem dX4_live_21 : decode cX4_live 21 = .ok (.ireturn, 1) := by decide +kernel
theorem dX4_live_22 : decode cX4_live 22 = .ok (.aload_n 0, 1) := by decide +kernel
theorem dX4_live_23 : decode cX4_live 23 = .ok (.invokevirtual 184, 3) := by decide +kernel
theorem dX4_live_26 : decode cX4_live 26 = .ok (.iconst 0, 1) := by decide +kernel
theorem dX4_live_27 : decode cX4_live 27 = .ok (.istore_n 3, 1) := by decide +kernel
theorem dX4_live_28 : decode cX4_live 28 = .ok (.iconst (-1), 1) := by decide +kernel
theorem dX4_live_29 : decode cX4_live 29 = .ok (.istore 4, 2) := by decide +kernel
theorem dX4_live_31 : decode cX4_live 31 = .ok (.iconst 1, 1) := by decide +kernel
theorem dX4_live_32 : decode cX4_live 32 = .ok (.istore 5, 2) := by decide +kernel
theorem dX4_live_34 : decode cX4_live 34 = .ok (.iconst 0, 1) := by decide +kernel
theorem dX4_live_35 : decode cX4_live 35 = .ok (.istore 6, 2) := by decide +kernel
theorem dX4_live_37 : decode cX4_live 37 = .ok (.iload 6, 2) := by decide +kernel
theorem dX4_live_39 : decode cX4_live 39 = .ok (.bipush 120, 2) := by decide +kernel
theorem dX4_live_41 : decode cX4_live 41 = .ok (.if_icmp .ge 68, 3) := by decide +kernel
theorem dX4_live_44 : decode cX4_live 44 = .ok (.iload 5, 2) := by decide +kernel
theorem dX4_live_46 : decode cX4_live 46 = .ok (.ifCond .eq 63, 3) := by decide +kernel
theorem dX4_live_49 : decode cX4_live 49 = .ok (.aload_n 0, 1) := by decide +kernel
theorem dX4_live_50 : decode cX4_live 50 = .ok (.getfield 42, 3) := by decide +kernel
theorem dX4_live_53 : decode cX4_live 53 = .ok (.aload_n 0, 1) := by decide +kernel
theorem dX4_live_54 : decode cX4_live 54 = .ok (.getfield 38, 3) := by decide +kernel
theorem dX4_live_57 : decode cX4_live 57 = .ok (.invokevirtual 167, 3) := by decide +kernel
theorem dX4_live_60 : decode cX4_live 60 = .ok (.aload_n 0, 1) := by decide +kernel
theorem dX4_live_61 : decode cX4_live 61 = .ok (.invokevirtual 187, 3) := by decide +kernel
theorem dX4_live_64 : decode cX4_live 64 = .ok (.aload_n 0, 1) := by decide +kernel
theorem dX4_live_65 : decode cX4_live 65 = .ok (.getfield 42, 3) := by decide +kernel
theorem dX4_live_68 : decode cX4_live 68 = .ok (.iload_n 1, 1) := by decide +kernel
theorem dX4_live_69 : decode cX4_live 69 = .ok (.invokevirtual 171, 3) := by decide +kernel
theorem dX4_live_72 : decode cX4_live 72 = .ok (.aload_n 0, 1) := by decide +kernel
theorem dX4_live_73 : decode cX4_live 73 = .ok (.getfield 42, 3) := by decide +kernel
theorem dX4_live_76 : decode cX4_live 76 = .ok (.invokevirtual 175, 3) := by decide +kernel
theorem dX4_live_79 : decode cX4_live 79 = .ok (.istore 7, 2) := by decide +kernel
theorem dX4_live_81 : decode cX4_live 81 = .ok (.iload 7, 2) := by decide +kernel
theorem dX4_live_83 : decode cX4_live 83 = .ok (.iload 4, 2) := by decide +kernel
theorem dX4_live_85 : decode cX4_live 85 = .ok (.if_icmp .le 12, 3) := by decide +kernel
theorem dX4_live_88 : decode cX4_live 88 = .ok (.iload 7, 2) := by decide +kernel
theorem dX4_live_90 : decode cX4_live 90 = .ok (.istore 4, 2) := by decide +kernel
theorem dX4_live_92 : decode cX4_live 92 = .ok (.aload_n 0, 1) := by decide +kernel
theorem dX4_live_93 : decode cX4_live 93 = .ok (.invokevirtual 190, 3) := by decide +kernel
theorem dX4_live_96 : decode cX4_live 96 = .ok (.istore_n 3, 1) := by decide +kernel
theorem dX4_live_97 : decode cX4_live 97 = .ok (.aload_n 0, 1) := by decide +kernel
theorem dX4_live_98 : decode cX4_live 98 = .ok (.invokevirtual 193, 3) := by decide +kernel
theorem dX4_live_101 : decode cX4_live 101 = .ok (.istore 5, 2) := by decide +kernel
theorem dX4_live_103 : decode cX4_live 103 = .ok (.iinc 6 1, 3) := by decide +kernel
theorem dX4_live_106 : decode cX4_live 106 = .ok (.goto (-69), 3) := by decide +kernel
theorem dX4_live_109 : decode cX4_live 109 = .ok (.iload_n 2, 1) := by decide +kernel
theorem dX4_live_110 : decode cX4_live 110 = .ok (.ifCond .ne 7, 3) := by decide +kernel
theorem dX4_live_113 : decode cX4_live 113 = .ok (.iload_n 3, 1) := by decide +kernel
theorem dX4_live_114 : decode cX4_live 114 = .ok (.goto 5, 3) := by decide +kernel
theorem dX4_live_117 : decode cX4_live 117 = .ok (.iload 4, 2) := by decide +kernel
theorem dX4_live_119 : decode cX4_live 119 = .ok (.ireturn, 1) := by decide +kernel
theorem dX4_hide_0 : decode cX4_hide 0 = .ok (.aload_n 0, 1) := by decide +kernel
theorem dX4_hide_1 : decode cX4_hide 1 = .ok (.getfield 38, 3) := by decide +kernel
theorem dX4_hide_4 : decode cX4_hide 4 = .ok (.iload_n 1, 1) := by decide +kernel
theorem dX4_hide_5 : decode cX4_hide 5 = .ok (.invokevirtual 98, 3) := by decide +kernel
theorem dX4_hide_8 : decode cX4_hide 8 = .ok (.ifCond .eq 35, 3) := by decide +kernel
theorem dX4_hide_11 : decode cX4_hide 11 = .ok (.aload_n 0, 1) := by decide +kernel
theorem dX4_hide_12 : decode cX4_hide 12 = .ok (.getfield 38, 3) := by decide +kernel
theorem dX4_hide_15 : decode cX4_hide 15 = .ok (.iload_n 2, 1) := by decide +kernel
theorem dX4_hide_16 : decode cX4_hide 16 = .ok (.invokevirtual 105, 3) := by decide +kernel
theorem dX4_hide_19 : decode cX4_hide 19 = .ok (.ifCond .eq 24, 3) := by decide +kernel
theorem dX4_hide_22 : decode cX4_hide 22 = .ok (.iload_n 3, 1) := by decide +kernel
theorem dX4_hide_23 : decode cX4_hide 23 = .ok (.ifCond .lt 20, 3) := by decide +kernel
theorem dX4_hide_26 : decode cX4_hide 26 = .ok (.iload_n 3, 1) := by decide +kernel
theorem dX4_hide_27 : decode cX4_hide 27 = .ok (.bipush 40, 2) := by decide +kernel
theorem dX4_hide_29 : decode cX4_hide 29 = .ok (.if_icmp .gt 14, 3) := by decide +kernel
theorem dX4_hide_32 : decode cX4_hide 32 = .ok (.iload 4, 2) := by decide +kernel
theorem dX4_hide_34 : decode cX4_hide 34 = .ok (.ifCond .lt 9, 3) := by decide +kernel
theorem dX4_hide_37 : decode cX4_hide 37 = .ok (.iload 4, 2) := by decide +kernel
theorem dX4_hide_39 : decode cX4_hide 39 = .ok (.iconst 1, 1) := by decide +kernel
theorem dX4_hide_40 : decode cX4_hide 40 = .ok (.if_icmp .le 6, 3) := by decide +kernel
theorem dX4_hide_43 : decode cX4_hide 43 = .ok (.bipush (-2), 2) := by decide +kernel
theorem dX4_hide_45 : decode cX4_hide 45 = .ok (.ireturn, 1) := by decide +kernel
theorem dX4_hide_46 : decode cX4_hide 46 = .ok (.iconst (-1), 1) := by decide +kernel
theorem dX4_hide_47 : decode cX4_hide 47 = .ok (.istore 5, 2) := by decide +kernel
theorem dX4_hide_49 : decode cX4_hide 49 = .ok (.iconst 0, 1) := by decide +kernel
theorem dX4_hide_50 : decode cX4_hide 50 = .ok (.istore 6, 2) := by decide +kernel
theorem dX4_hide_52 : decode cX4_hide 52 = .ok (.iload 6, 2) := by decide +kernel
theorem dX4_hide_54 : decode cX4_hide 54 = .ok (.iconst 1, 1) := by decide +kernel
theorem dX4_hide_55 : decode cX4_hide 55 = .ok (.aload_n 0, 1) := by decide +kernel
theorem dX4_hide_56 : decode cX4_hide 56 = .ok (.getfield 38, 3) := by decide +kernel
theorem dX4_hide_59 : decode cX4_hide 59 = .ok (.getfield 196, 3) := by decide +kernel
theorem dX4_hide_62 : decode cX4_hide 62 = .ok (.ishl, 1) := by decide +kernel
theorem dX4_hide_63 : decode cX4_hide 63 = .ok (.if_icmp .ge 71, 3) := by decide +kernel
theorem dX4_hide_66 : decode cX4_hide 66 = .ok (.iload 5, 2) := by decide +kernel
theorem dX4_hide_68 : decode cX4_hide 68 = .ok (.iconst (-1), 1) := by decide +kernel
theorem dX4_hide_69 : decode cX4_hide 69 = .ok (.if_icmp .eq 19, 3) := by decide +kernel
theorem dX4_hide_72 : decode cX4_hide 72 = .ok (.iload 6, 2) := by decide +kernel
theorem dX4_hide_74 : decode cX4_hide 74 = .ok (.invokestatic 199, 3) := by decide +kernel
theorem dX4_hide_77 : decode cX4_hide 77 = .ok (.iload 5, 2) := by decide +kernel
theorem dX4_hide_79 : decode cX4_hide 79 = .ok (.invokestatic 199, 3) := by decide +kernel
theorem dX4_hide_82 : decode cX4_hide 82 = .ok (.if_icmp .lt 6, 3) := by decide +kernel
theorem dX4_hide_85 : decode cX4_hide 85 = .ok (.goto 43, 3) := by decide +kernel
theorem dX4_hide_88 : decode cX4_hide 88 = .ok (.aload_n 0, 1) := by decide +kernel
theorem dX4_hide_89 : decode cX4_hide 89 = .ok (.getfield 42, 3) := by decide +kernel
theorem dX4_hide_92 : decode cX4_hide 92 = .ok (.aload_n 0, 1) := by decide +kernel
theorem dX4_hide_93 : decode cX4_hide 93 = .ok (.getfield 38, 3) := by decide +kernel
theorem dX4_hide_96 : decode cX4_hide 96 = .ok (.invokevirtual 167, 3) := by decide +kernel
theorem dX4_hide_99 : decode cX4_hide 99 = .ok (.aload_n 0, 1) := by decide +kernel
theorem dX4_hide_100 : decode cX4_hide 100 = .ok (.getfield 42, 3) := by decide +kernel
theorem dX4_hide_103 : decode cX4_hide 103 = .ok (.iload 6, 2) := by decide +kernel
theorem dX4_hide_105 : decode cX4_hide 105 = .ok (.putfield 204, 3) := by decide +kernel
theorem dX4_hide_108 : decode cX4_hide 108 = .ok (.aload_n 0, 1) := by decide +kernel
theorem dX4_hide_109 : decode cX4_hide 109 = .ok (.getfield 42, 3) := by decide +kernel
theorem dX4_hide_112 : decode cX4_hide 112 = .ok (.iload_n 1, 1) := by decide +kernel
theorem dX4_hide_113 : decode cX4_hide 113 = .ok (.iload_n 3, 1) := by decide +kernel
theorem dX4_hide_114 : decode cX4_hide 114 = .ok (.invokevirtual 207, 3) := by decide +kernel
theorem dX4_hide_117 : decode cX4_hide 117 = .ok (.iload_n 2, 1) := by decide +kernel
theorem dX4_hide_118 : decode cX4_hide 118 = .ok (.ishr, 1) := by decide +kernel
theorem dX4_hide_119 : decode cX4_hide 119 = .ok (.iconst 1, 1) := by decide +kernel
theorem dX4_hide_120 : decode cX4_hide 120 = .ok (.iand, 1) := by decide +kernel
theorem dX4_hide_121 : decode cX4_hide 121 = .ok (.ifCond .ne 7, 3) := by decide +kernel
theorem dX4_hide_124 : decode cX4_hide 124 = .ok (.iload 6, 2) := by decide +kernel
theorem dX4_hide_126 : decode cX4_hide 126 = .ok (.istore 5, 2) := by decide +kernel
theorem dX4_hide_128 : decode cX4_hide 128 = .ok (.iinc 6 1, 3) := by decide +kernel
theorem dX4_hide_131 : decode cX4_hide 131 = .ok (.goto (-79), 3) := by decide +kernel
theorem dX4_hide_134 : decode cX4_hide 134 = .ok (.iload 5, 2) := by decide +kernel
theorem dX4_hide_136 : decode cX4_hide 136 = .ok (.iconst (-1), 1) := by decide +kernel
theorem dX4_hide_137 : decode cX4_hide 137 = .ok (.if_icmp .eq 8, 3) := by decide +kernel
theorem dX4_hide_140 : decode cX4_hide 140 = .ok (.iload 4, 2) := by decide +kernel
theorem dX4_hide_142 : decode cX4_hide 142 = .ok (.ifCond .ne 8, 3) := by decide +kernel
theorem dX4_hide_145 : decode cX4_hide 145 = .ok (.iload 5, 2) := by decide +kernel
theorem dX4_hide_147 : decode cX4_hide 147 = .ok (.goto 8, 3) := by decide +kernel
theorem dX4_hide_150 : decode cX4_hide 150 = .ok (.iload 5, 2) := by decide +kernel
theorem dX4_hide_152 : decode cX4_hide 152 = .ok (.invokestatic 199, 3) := by decide +kernel
theorem dX4_hide_155 : decode cX4_hide 155 = .ok (.ireturn, 1) := by decide +kernel
theorem dX4_tell_0 : decode cX4_tell 0 = .ok (.aload_n 0, 1) := by decide +kernel
theorem dX4_tell_1 : decode cX4_tell 1 = .ok (.getfield 38, 3) := by decide +kernel
theorem dX4_tell_4 : decode cX4_tell 4 = .ok (.iload_n 1, 1) := by decide +kernel
theorem dX4_tell_5 : decode cX4_tell 5 = .ok (.invokevirtual 105, 3) := by decide +kernel
theorem dX4_tell_8 : decode cX4_tell 8 = .ok (.ifCond .eq 30, 3) := by decide +kernel
theorem dX4_tell_11 : decode cX4_tell 11 = .ok (.iload_n 2, 1) := by decide +kernel
theorem dX4_tell_12 : decode cX4_tell 12 = .ok (.ifCond .lt 26, 3) := by decide +kernel
theorem dX4_tell_15 : decode cX4_tell 15 = .ok (.iload_n 2, 1) := by decide +kernel
theorem dX4_tell_16 : decode cX4_tell 16 = .ok (.iconst 1, 1) := by decide +kernel
theorem dX4_tell_17 : decode cX4_tell 17 = .ok (.aload_n 0, 1) := by decide +kernel
theorem dX4_tell_18 : decode cX4_tell 18 = .ok (.getfield 38, 3) := by decide +kernel
theorem dX4_tell_21 : decode cX4_tell 21 = .ok (.getfield 196, 3) := by decide +kernel
theorem dX4_tell_24 : decode cX4_tell 24 = .ok (.ishl, 1) := by decide +kernel
theorem dX4_tell_25 : decode cX4_tell 25 = .ok (.if_icmp .ge 13, 3) := by decide +kernel
theorem dX4_tell_28 : decode cX4_tell 28 = .ok (.iload_n 3, 1) := by decide +kernel
theorem dX4_tell_29 : decode cX4_tell 29 = .ok (.ifCond .lt 9, 3) := by decide +kernel
theorem dX4_tell_32 : decode cX4_tell 32 = .ok (.iload_n 3, 1) := by decide +kernel
theorem dX4_tell_33 : decode cX4_tell 33 = .ok (.bipush 20, 2) := by decide +kernel
theorem dX4_tell_35 : decode cX4_tell 35 = .ok (.if_icmp .le 6, 3) := by decide +kernel
theorem dX4_tell_38 : decode cX4_tell 38 = .ok (.bipush (-2), 2) := by decide +kernel
theorem dX4_tell_40 : decode cX4_tell 40 = .ok (.ireturn, 1) := by decide +kernel
theorem dX4_tell_41 : decode cX4_tell 41 = .ok (.aload_n 0, 1) := by decide +kernel
theorem dX4_tell_42 : decode cX4_tell 42 = .ok (.getfield 38, 3) := by decide +kernel
theorem dX4_tell_45 : decode cX4_tell 45 = .ok (.invokevirtual 210, 3) := by decide +kernel
theorem dX4_tell_48 : decode cX4_tell 48 = .ok (.ifCond .ne 6, 3) := by decide +kernel
theorem dX4_tell_51 : decode cX4_tell 51 = .ok (.bipush (-4), 2) := by decide +kernel
theorem dX4_tell_53 : decode cX4_tell 53 = .ok (.ireturn, 1) := by decide +kernel
theorem dX4_tell_54 : decode cX4_tell 54 = .ok (.iconst 0, 1) := by decide +kernel
theorem dX4_tell_55 : decode cX4_tell 55 = .ok (.istore 4, 2) := by decide +kernel
theorem dX4_tell_57 : decode cX4_tell 57 = .ok (.iload 4, 2) := by decide +kernel
theorem dX4_tell_59 : decode cX4_tell 59 = .ok (.aload_n 0, 1) := by decide +kernel
theorem dX4_tell_60 : decode cX4_tell 60 = .ok (.getfield 38, 3) := by decide +kernel
theorem dX4_tell_63 : decode cX4_tell 63 = .ok (.getfield 196, 3) := by decide +kernel
theorem dX4_tell_66 : decode cX4_tell 66 = .ok (.if_icmp .ge 51, 3) := by decide +kernel
theorem dX4_tell_69 : decode cX4_tell 69 = .ok (.aload_n 0, 1) := by decide +kernel
theorem dX4_tell_70 : decode cX4_tell 70 = .ok (.getfield 42, 3) := by decide +kernel
theorem dX4_tell_73 : decode cX4_tell 73 = .ok (.aload_n 0, 1) := by decide +kernel
theorem dX4_tell_74 : decode cX4_tell 74 = .ok (.getfield 38, 3) := by decide +kernel
theorem dX4_tell_77 : decode cX4_tell 77 = .ok (.invokevirtual 167, 3) := by decide +kernel
theorem dX4_tell_80 : decode cX4_tell 80 = .ok (.iload 4, 2) := by decide +kernel
theorem dX4_tell_82 : decode cX4_tell 82 = .ok (.iload_n 1, 1) := by decide +kernel
theorem dX4_tell_83 : decode cX4_tell 83 = .ok (.if_icmp .eq 28, 3) := by decide +kernel
theorem dX4_tell_86 : decode cX4_tell 86 = .ok (.aload_n 0, 1) := by decide +kernel
theorem dX4_tell_87 : decode cX4_tell 87 = .ok (.getfield 42, 3) := by decide +kernel
theorem dX4_tell_90 : decode cX4_tell 90 = .ok (.aload_n 0, 1) := by decide +kernel
theorem dX4_tell_91 : decode cX4_tell 91 = .ok (.getfield 42, 3) := by decide +kernel
theorem dX4_tell_94 : decode cX4_tell 94 = .ok (.iload_n 1, 1) := by decide +kernel
theorem dX4_tell_95 : decode cX4_tell 95 = .ok (.iload 4, 2) := by decide +kernel
theorem dX4_tell_97 : decode cX4_tell 97 = .ok (.invokevirtual 161, 3) := by decide +kernel
theorem dX4_tell_100 : decode cX4_tell 100 = .ok (.iload_n 3, 1) := by decide +kernel
theorem dX4_tell_101 : decode cX4_tell 101 = .ok (.invokevirtual 207, 3) := by decide +kernel
theorem dX4_tell_104 : decode cX4_tell 104 = .ok (.iload_n 2, 1) := by decide +kernel
theorem dX4_tell_105 : decode cX4_tell 105 = .ok (.if_icmp .ne 6, 3) := by decide +kernel
theorem dX4_tell_108 : decode cX4_tell 108 = .ok (.iload 4, 2) := by decide +kernel
theorem dX4_tell_110 : decode cX4_tell 110 = .ok (.ireturn, 1) := by decide +kernel
theorem dX4_tell_111 : decode cX4_tell 111 = .ok (.iinc 4 1, 3) := by decide +kernel
theorem dX4_tell_114 : decode cX4_tell 114 = .ok (.goto (-57), 3) := by decide +kernel
theorem dX4_tell_117 : decode cX4_tell 117 = .ok (.iconst (-1), 1) := by decide +kernel
theorem dX4_tell_118 : decode cX4_tell 118 = .ok (.ireturn, 1) := by decide +kernel
theorem dX4_mean_0 : decode cX4_mean 0 = .ok (.iload_n 1, 1) := by decide +kernel
theorem dX4_mean_1 : decode cX4_mean 1 = .ok (.ifCond .lt 18, 3) := by decide +kernel
theorem dX4_mean_4 : decode cX4_mean 4 = .ok (.iload_n 1, 1) := by decide +kernel
theorem dX4_mean_5 : decode cX4_mean 5 = .ok (.iconst 1, 1) := by decide +kernel
theorem dX4_mean_6 : decode cX4_mean 6 = .ok (.if_icmp .gt 13, 3) := by decide +kernel
theorem dX4_mean_9 : decode cX4_mean 9 = .ok (.aload_n 0, 1) := by decide +kernel
theorem dX4_mean_10 : decode cX4_mean 10 = .ok (.getfield 38, 3) := by decide +kernel
theorem dX4_mean_13 : decode cX4_mean 13 = .ok (.getfield 211, 3) := by decide +kernel
theorem dX4_mean_16 : decode cX4_mean 16 = .ok (.ifCond .ne 7, 3) := by decide +kernel
theorem dX4_mean_19 : decode cX4_mean 19 = .ok (.ldc2_w 214, 3) := by decide +kernel
theorem dX4_mean_22 : decode cX4_mean 22 = .ok (.lreturn, 1) := by decide +kernel
theorem dX4_mean_23 : decode cX4_mean 23 = .ok (.iconst 0, 1) := by decide +kernel
theorem dX4_mean_24 : decode cX4_mean 24 = .ok (.istore_n 2, 1) := by decide +kernel
theorem dX4_mean_25 : decode cX4_mean 25 = .ok (.iconst 0, 1) := by decide +kernel
theorem dX4_mean_26 : decode cX4_mean 26 = .ok (.istore_n 3, 1) := by decide +kernel
theorem dX4_mean_27 : decode cX4_mean 27 = .ok (.iload_n 3, 1) := by decide +kernel
theorem dX4_mean_28 : decode cX4_mean 28 = .ok (.aload_n 0, 1) := by decide +kernel
theorem dX4_mean_29 : decode cX4_mean 29 = .ok (.getfield 38, 3) := by decide +kernel
theorem dX4_mean_32 : decode cX4_mean 32 = .ok (.getfield 211, 3) := by decide +kernel
theorem dX4_mean_35 : decode cX4_mean 35 = .ok (.if_icmp .ge 20, 3) := by decide +kernel
theorem dX4_mean_38 : decode cX4_mean 38 = .ok (.iload_n 2, 1) := by decide +kernel
theorem dX4_mean_39 : decode cX4_mean 39 = .ok (.aload_n 0, 1) := by decide +kernel
theorem dX4_mean_40 : decode cX4_mean 40 = .ok (.getfield 38, 3) := by decide +kernel
theorem dX4_mean_43 : decode cX4_mean 43 = .ok (.iload_n 3, 1) := by decide +kernel
theorem dX4_mean_44 : decode cX4_mean 44 = .ok (.invokevirtual 129, 3) := by decide +kernel
theorem dX4_mean_47 : decode cX4_mean 47 = .ok (.iadd, 1) := by decide +kernel
theorem dX4_mean_48 : decode cX4_mean 48 = .ok (.istore_n 2, 1) := by decide +kernel
theorem dX4_mean_49 : decode cX4_mean 49 = .ok (.iinc 3 1, 3) := by decide +kernel
theorem dX4_mean_52 : decode cX4_mean 52 = .ok (.goto (-25), 3) := by decide +kernel
theorem dX4_mean_55 : decode cX4_mean 55 = .ok (.iload_n 2, 1) := by decide +kernel
theorem dX4_mean_56 : decode cX4_mean 56 = .ok (.aload_n 0, 1) := by decide +kernel
theorem dX4_mean_57 : decode cX4_mean 57 = .ok (.getfield 38, 3) := by decide +kernel
theorem dX4_mean_60 : decode cX4_mean 60 = .ok (.getfield 211, 3) := by decide +kernel
theorem dX4_mean_63 : decode cX4_mean 63 = .ok (.iload_n 1, 1) := by decide +kernel
theorem dX4_mean_64 : decode cX4_mean 64 = .ok (.invokestatic 216, 3) := by decide +kernel
theorem dX4_mean_67 : decode cX4_mean 67 = .ok (.lreturn, 1) := by decide +kernel
theorem dX4_firstWay_0 : decode cX4_firstWay 0 = .ok (.iconst 0, 1) := by decide +kernel
theorem dX4_firstWay_1 : decode cX4_firstWay 1 = .ok (.istore_n 1, 1) := by decide +kernel
theorem dX4_firstWay_2 : decode cX4_firstWay 2 = .ok (.iconst 0, 1) := by decide +kernel
theorem dX4_firstWay_3 : decode cX4_firstWay 3 = .ok (.istore_n 2, 1) := by decide +kernel
theorem dX4_firstWay_4 : decode cX4_firstWay 4 = .ok (.iload_n 2, 1) := by decide +kernel
theorem dX4_firstWay_5 : decode cX4_firstWay 5 = .ok (.bipush 8, 2) := by decide +kernel
theorem dX4_firstWay_7 : decode cX4_firstWay 7 = .ok (.if_icmp .ge 40, 3) := by decide +kernel
theorem dX4_firstWay_10 : decode cX4_firstWay 10 = .ok (.aload_n 0, 1) := by decide +kernel
theorem dX4_firstWay_11 : decode cX4_firstWay 11 = .ok (.getfield 38, 3) := by decide +kernel
theorem dX4_firstWay_14 : decode cX4_firstWay 14 = .ok (.iload_n 2, 1) := by decide +kernel
theorem dX4_firstWay_15 : decode cX4_firstWay 15 = .ok (.invokevirtual 81, 3) := by decide +kernel
theorem dX4_firstWay_18 : decode cX4_firstWay 18 = .ok (.iconst (-1), 1) := by decide +kernel
theorem dX4_firstWay_19 : decode cX4_firstWay 19 = .ok (.if_icmp .eq 22, 3) := by decide +kernel
theorem dX4_firstWay_22 : decode cX4_firstWay 22 = .ok (.iload_n 1, 1) := by decide +kernel
theorem dX4_firstWay_23 : decode cX4_firstWay 23 = .ok (.aload_n 0, 1) := by decide +kernel
theorem dX4_firstWay_24 : decode cX4_firstWay 24 = .ok (.getfield 48, 3) := by decide +kernel
theorem dX4_firstWay_27 : decode cX4_firstWay 27 = .ok (.arraylength, 1) := by decide +kernel
theorem dX4_firstWay_28 : decode cX4_firstWay 28 = .ok (.if_icmp .ge 13, 3) := by decide +kernel
theorem dX4_firstWay_31 : decode cX4_firstWay 31 = .ok (.aload_n 0, 1) := by decide +kernel
theorem dX4_firstWay_32 : decode cX4_firstWay 32 = .ok (.getfield 48, 3) := by decide +kernel
theorem dX4_firstWay_35 : decode cX4_firstWay 35 = .ok (.iload_n 1, 1) := by decide +kernel
theorem dX4_firstWay_36 : decode cX4_firstWay 36 = .ok (.iload_n 2, 1) := by decide +kernel
theorem dX4_firstWay_37 : decode cX4_firstWay 37 = .ok (.iastore, 1) := by decide +kernel
theorem dX4_firstWay_38 : decode cX4_firstWay 38 = .ok (.iinc 1 1, 3) := by decide +kernel
theorem dX4_firstWay_41 : decode cX4_firstWay 41 = .ok (.iinc 2 1, 3) := by decide +kernel
theorem dX4_firstWay_44 : decode cX4_firstWay 44 = .ok (.goto (-40), 3) := by decide +kernel
theorem dX4_firstWay_47 : decode cX4_firstWay 47 = .ok (.return_, 1) := by decide +kernel
theorem dX4_nextWay_0 : decode cX4_nextWay 0 = .ok (.aload_n 0, 1) := by decide +kernel
theorem dX4_nextWay_1 : decode cX4_nextWay 1 = .ok (.getfield 38, 3) := by decide +kernel
theorem dX4_nextWay_4 : decode cX4_nextWay 4 = .ok (.getfield 196, 3) := by decide +kernel
theorem dX4_nextWay_7 : decode cX4_nextWay 7 = .ok (.aload_n 0, 1) := by decide +kernel
theorem dX4_nextWay_8 : decode cX4_nextWay 8 = .ok (.getfield 48, 3) := by decide +kernel
theorem dX4_nextWay_11 : decode cX4_nextWay 11 = .ok (.arraylength, 1) := by decide +kernel
theorem dX4_nextWay_12 : decode cX4_nextWay 12 = .ok (.invokestatic 220, 3) := by decide +kernel
theorem dX4_nextWay_15 : decode cX4_nextWay 15 = .ok (.istore_n 1, 1) := by decide +kernel
theorem dX4_nextWay_16 : decode cX4_nextWay 16 = .ok (.iload_n 1, 1) := by decide +kernel
theorem dX4_nextWay_17 : decode cX4_nextWay 17 = .ok (.iconst 2, 1) := by decide +kernel
theorem dX4_nextWay_18 : decode cX4_nextWay 18 = .ok (.isub, 1) := by decide +kernel
theorem dX4_nextWay_19 : decode cX4_nextWay 19 = .ok (.istore_n 2, 1) := by decide +kernel
theorem dX4_nextWay_20 : decode cX4_nextWay 20 = .ok (.iload_n 2, 1) := by decide +kernel
theorem dX4_nextWay_21 : decode cX4_nextWay 21 = .ok (.ifCond .lt 26, 3) := by decide +kernel
theorem dX4_nextWay_24 : decode cX4_nextWay 24 = .ok (.aload_n 0, 1) := by decide +kernel
theorem dX4_nextWay_25 : decode cX4_nextWay 25 = .ok (.getfield 48, 3) := by decide +kernel
theorem dX4_nextWay_28 : decode cX4_nextWay 28 = .ok (.iload_n 2, 1) := by decide +kernel
theorem dX4_nextWay_29 : decode cX4_nextWay 29 = .ok (.iaload, 1) := by decide +kernel
theorem dX4_nextWay_30 : decode cX4_nextWay 30 = .ok (.aload_n 0, 1) := by decide +kernel
theorem dX4_nextWay_31 : decode cX4_nextWay 31 = .ok (.getfield 48, 3) := by decide +kernel
theorem dX4_nextWay_34 : decode cX4_nextWay 34 = .ok (.iload_n 2, 1) := by decide +kernel
theorem dX4_nextWay_35 : decode cX4_nextWay 35 = .ok (.iconst 1, 1) := by decide +kernel
theorem dX4_nextWay_36 : decode cX4_nextWay 36 = .ok (.iadd, 1) := by decide +kernel
theorem dX4_nextWay_37 : decode cX4_nextWay 37 = .ok (.iaload, 1) := by decide +kernel
theorem dX4_nextWay_38 : decode cX4_nextWay 38 = .ok (.if_icmp .lt 9, 3) := by decide +kernel
theorem dX4_nextWay_41 : decode cX4_nextWay 41 = .ok (.iinc 2 (-1), 3) := by decide +kernel
theorem dX4_nextWay_44 : decode cX4_nextWay 44 = .ok (.goto (-24), 3) := by decide +kernel
theorem dX4_nextWay_47 : decode cX4_nextWay 47 = .ok (.iload_n 2, 1) := by decide +kernel
theorem dX4_nextWay_48 : decode cX4_nextWay 48 = .ok (.ifCond .ge 5, 3) := by decide +kernel
theorem dX4_nextWay_51 : decode cX4_nextWay 51 = .ok (.iconst 0, 1) := by decide +kernel
theorem dX4_nextWay_52 : decode cX4_nextWay 52 = .ok (.ireturn, 1) := by decide +kernel
theorem dX4_nextWay_53 : decode cX4_nextWay 53 = .ok (.iload_n 1, 1) := by decide +kernel
theorem dX4_nextWay_54 : decode cX4_nextWay 54 = .ok (.iconst 1, 1) := by decide +kernel
theorem dX4_nextWay_55 : decode cX4_nextWay 55 = .ok (.isub, 1) := by decide +kernel
theorem dX4_nextWay_56 : decode cX4_nextWay 56 = .ok (.istore_n 3, 1) := by decide +kernel
theorem dX4_nextWay_57 : decode cX4_nextWay 57 = .ok (.iload_n 3, 1) := by decide +kernel
theorem dX4_nextWay_58 : decode cX4_nextWay 58 = .ok (.iload_n 2, 1) := by decide +kernel
theorem dX4_nextWay_59 : decode cX4_nextWay 59 = .ok (.if_icmp .le 24, 3) := by decide +kernel
theorem dX4_nextWay_62 : decode cX4_nextWay 62 = .ok (.aload_n 0, 1) := by decide +kernel
theorem dX4_nextWay_63 : decode cX4_nextWay 63 = .ok (.getfield 48, 3) := by decide +kernel
theorem dX4_nextWay_66 : decode cX4_nextWay 66 = .ok (.iload_n 3, 1) := by decide +kernel
theorem dX4_nextWay_67 : decode cX4_nextWay 67 = .ok (.iaload, 1) := by decide +kernel
theorem dX4_nextWay_68 : decode cX4_nextWay 68 = .ok (.aload_n 0, 1) := by decide +kernel
theorem dX4_nextWay_69 : decode cX4_nextWay 69 = .ok (.getfield 48, 3) := by decide +kernel
theorem dX4_nextWay_72 : decode cX4_nextWay 72 = .ok (.iload_n 2, 1) := by decide +kernel
theorem dX4_nextWay_73 : decode cX4_nextWay 73 = .ok (.iaload, 1) := by decide +kernel
theorem dX4_nextWay_74 : decode cX4_nextWay 74 = .ok (.if_icmp .gt 9, 3) := by decide +kernel
theorem dX4_nextWay_77 : decode cX4_nextWay 77 = .ok (.iinc 3 (-1), 3) := by decide +kernel
theorem dX4_nextWay_80 : decode cX4_nextWay 80 = .ok (.goto (-23), 3) := by decide +kernel
theorem dX4_nextWay_83 : decode cX4_nextWay 83 = .ok (.aload_n 0, 1) := by decide +kernel
theorem dX4_nextWay_84 : decode cX4_nextWay 84 = .ok (.iload_n 2, 1) := by decide +kernel
theorem dX4_nextWay_85 : decode cX4_nextWay 85 = .ok (.iload_n 3, 1) := by decide +kernel
theorem dX4_nextWay_86 : decode cX4_nextWay 86 = .ok (.invokevirtual 225, 3) := by decide +kernel
theorem dX4_nextWay_89 : decode cX4_nextWay 89 = .ok (.iload_n 2, 1) := by decide +kernel
theorem dX4_nextWay_90 : decode cX4_nextWay 90 = .ok (.iconst 1, 1) := by decide +kernel
theorem dX4_nextWay_91 : decode cX4_nextWay 91 = .ok (.iadd, 1) := by decide +kernel
theorem dX4_nextWay_92 : decode cX4_nextWay 92 = .ok (.istore 4, 2) := by decide +kernel
theorem dX4_nextWay_94 : decode cX4_nextWay 94 = .ok (.iload_n 1, 1) := by decide +kernel
theorem dX4_nextWay_95 : decode cX4_nextWay 95 = .ok (.iconst 1, 1) := by decide +kernel
theorem dX4_nextWay_96 : decode cX4_nextWay 96 = .ok (.isub, 1) := by decide +kernel
theorem dX4_nextWay_97 : decode cX4_nextWay 97 = .ok (.istore 5, 2) := by decide +kernel
theorem dX4_nextWay_99 : decode cX4_nextWay 99 = .ok (.iload 4, 2) := by decide +kernel
theorem dX4_nextWay_101 : decode cX4_nextWay 101 = .ok (.iload 5, 2) := by decide +kernel
theorem dX4_nextWay_103 : decode cX4_nextWay 103 = .ok (.if_icmp .ge 20, 3) := by decide +kernel
theorem dX4_nextWay_106 : decode cX4_nextWay 106 = .ok (.aload_n 0, 1) := by decide +kernel
theorem dX4_nextWay_107 : decode cX4_nextWay 107 = .ok (.iload 4, 2) := by decide +kernel
theorem dX4_nextWay_109 : decode cX4_nextWay 109 = .ok (.iload 5, 2) := by decide +kernel
theorem dX4_nextWay_111 : decode cX4_nextWay 111 = .ok (.invokevirtual 225, 3) := by decide +kernel
theorem dX4_nextWay_114 : decode cX4_nextWay 114 = .ok (.iinc 4 1, 3) := by decide +kernel
theorem dX4_nextWay_117 : decode cX4_nextWay 117 = .ok (.iinc 5 (-1), 3) := by decide +kernel
theorem dX4_nextWay_120 : decode cX4_nextWay 120 = .ok (.goto (-21), 3) := by decide +kernel
theorem dX4_nextWay_123 : decode cX4_nextWay 123 = .ok (.iconst 1, 1) := by decide +kernel
theorem dX4_nextWay_124 : decode cX4_nextWay 124 = .ok (.ireturn, 1) := by decide +kernel
theorem dX4_exchange_0 : decode cX4_exchange 0 = .ok (.iload_n 1, 1) := by decide +kernel
theorem dX4_exchange_1 : decode cX4_exchange 1 = .ok (.ifCond .lt 51, 3) := by decide +kernel
theorem dX4_exchange_4 : decode cX4_exchange 4 = .ok (.iload_n 1, 1) := by decide +kernel
theorem dX4_exchange_5 : decode cX4_exchange 5 = .ok (.aload_n 0, 1) := by decide +kernel
theorem dX4_exchange_6 : decode cX4_exchange 6 = .ok (.getfield 48, 3) := by decide +kernel
theorem dX4_exchange_9 : decode cX4_exchange 9 = .ok (.arraylength, 1) := by decide +kernel
theorem dX4_exchange_10 : decode cX4_exchange 10 = .ok (.if_icmp .ge 42, 3) := by decide +kernel
theorem dX4_exchange_13 : decode cX4_exchange 13 = .ok (.iload_n 2, 1) := by decide +kernel
theorem dX4_exchange_14 : decode cX4_exchange 14 = .ok (.ifCond .lt 38, 3) := by decide +kernel
theorem dX4_exchange_17 : decode cX4_exchange 17 = .ok (.iload_n 2, 1) := by decide +kernel
theorem dX4_exchange_18 : decode cX4_exchange 18 = .ok (.aload_n 0, 1) := by decide +kernel
theorem dX4_exchange_19 : decode cX4_exchange 19 = .ok (.getfield 48, 3) := by decide +kernel
theorem dX4_exchange_22 : decode cX4_exchange 22 = .ok (.arraylength, 1) := by decide +kernel
theorem dX4_exchange_23 : decode cX4_exchange 23 = .ok (.if_icmp .ge 29, 3) := by decide +kernel
theorem dX4_exchange_26 : decode cX4_exchange 26 = .ok (.aload_n 0, 1) := by decide +kernel
theorem dX4_exchange_27 : decode cX4_exchange 27 = .ok (.getfield 48, 3) := by decide +kernel
theorem dX4_exchange_30 : decode cX4_exchange 30 = .ok (.iload_n 1, 1) := by decide +kernel
theorem dX4_exchange_31 : decode cX4_exchange 31 = .ok (.iaload, 1) := by decide +kernel
theorem dX4_exchange_32 : decode cX4_exchange 32 = .ok (.istore_n 3, 1) := by decide +kernel
theorem dX4_exchange_33 : decode cX4_exchange 33 = .ok (.aload_n 0, 1) := by decide +kernel
theorem dX4_exchange_34 : decode cX4_exchange 34 = .ok (.getfield 48, 3) := by decide +kernel
theorem dX4_exchange_37 : decode cX4_exchange 37 = .ok (.iload_n 1, 1) := by decide +kernel
theorem dX4_exchange_38 : decode cX4_exchange 38 = .ok (.aload_n 0, 1) := by decide +kernel
theorem dX4_exchange_39 : decode cX4_exchange 39 = .ok (.getfield 48, 3) := by decide +kernel
theorem dX4_exchange_42 : decode cX4_exchange 42 = .ok (.iload_n 2, 1) := by decide +kernel
theorem dX4_exchange_43 : decode cX4_exchange 43 = .ok (.iaload, 1) := by decide +kernel
theorem dX4_exchange_44 : decode cX4_exchange 44 = .ok (.iastore, 1) := by decide +kernel
theorem dX4_exchange_45 : decode cX4_exchange 45 = .ok (.aload_n 0, 1) := by decide +kernel
theorem dX4_exchange_46 : decode cX4_exchange 46 = .ok (.getfield 48, 3) := by decide +kernel
theorem dX4_exchange_49 : decode cX4_exchange 49 = .ok (.iload_n 2, 1) := by decide +kernel
theorem dX4_exchange_50 : decode cX4_exchange 50 = .ok (.iload_n 3, 1) := by decide +kernel
theorem dX4_exchange_51 : decode cX4_exchange 51 = .ok (.iastore, 1) := by decide +kernel
theorem dX4_exchange_52 : decode cX4_exchange 52 = .ok (.return_, 1) := by decide +kernel
theorem dX4_moveByWay_0 : decode cX4_moveByWay 0 = .ok (.iconst 0, 1) := by decide +kernel
theorem dX4_moveByWay_1 : decode cX4_moveByWay 1 = .ok (.istore_n 1, 1) := by decide +kernel
theorem dX4_moveByWay_2 : decode cX4_moveByWay 2 = .ok (.iload_n 1, 1) := by decide +kernel
theorem dX4_moveByWay_3 : decode cX4_moveByWay 3 = .ok (.aload_n 0, 1) := by decide +kernel
theorem dX4_moveByWay_4 : decode cX4_moveByWay 4 = .ok (.getfield 38, 3) := by decide +kernel
theorem dX4_moveByWay_7 : decode cX4_moveByWay 7 = .ok (.getfield 196, 3) := by decide +kernel
theorem dX4_moveByWay_10 : decode cX4_moveByWay 10 = .ok (.if_icmp .ge 32, 3) := by decide +kernel
theorem dX4_moveByWay_13 : decode cX4_moveByWay 13 = .ok (.iload_n 1, 1) := by decide +kernel
theorem dX4_moveByWay_14 : decode cX4_moveByWay 14 = .ok (.aload_n 0, 1) := by decide +kernel
theorem dX4_moveByWay_15 : decode cX4_moveByWay 15 = .ok (.getfield 48, 3) := by decide +kernel
theorem dX4_moveByWay_18 : decode cX4_moveByWay 18 = .ok (.arraylength, 1) := by decide +kernel
theorem dX4_moveByWay_19 : decode cX4_moveByWay 19 = .ok (.if_icmp .ge 23, 3) := by decide +kernel
theorem dX4_moveByWay_22 : decode cX4_moveByWay 22 = .ok (.aload_n 0, 1) := by decide +kernel
theorem dX4_moveByWay_23 : decode cX4_moveByWay 23 = .ok (.getfield 42, 3) := by decide +kernel
theorem dX4_moveByWay_26 : decode cX4_moveByWay 26 = .ok (.iload_n 1, 1) := by decide +kernel
theorem dX4_moveByWay_27 : decode cX4_moveByWay 27 = .ok (.aload_n 0, 1) := by decide +kernel
theorem dX4_moveByWay_28 : decode cX4_moveByWay 28 = .ok (.getfield 48, 3) := by decide +kernel
theorem dX4_moveByWay_31 : decode cX4_moveByWay 31 = .ok (.iload_n 1, 1) := by decide +kernel
theorem dX4_moveByWay_32 : decode cX4_moveByWay 32 = .ok (.iaload, 1) := by decide +kernel
theorem dX4_moveByWay_33 : decode cX4_moveByWay 33 = .ok (.invokevirtual 95, 3) := by decide +kernel
theorem dX4_moveByWay_36 : decode cX4_moveByWay 36 = .ok (.iinc 1 1, 3) := by decide +kernel
theorem dX4_moveByWay_39 : decode cX4_moveByWay 39 = .ok (.goto (-37), 3) := by decide +kernel
theorem dX4_moveByWay_42 : decode cX4_moveByWay 42 = .ok (.return_, 1) := by decide +kernel
theorem dX4_digitsOfWay_0 : decode cX4_digitsOfWay 0 = .ok (.iconst 0, 1) := by decide +kernel
theorem dX4_digitsOfWay_1 : decode cX4_digitsOfWay 1 = .ok (.istore_n 1, 1) := by decide +kernel
theorem dX4_digitsOfWay_2 : decode cX4_digitsOfWay 2 = .ok (.iconst 0, 1) := by decide +kernel
theorem dX4_digitsOfWay_3 : decode cX4_digitsOfWay 3 = .ok (.istore_n 2, 1) := by decide +kernel
theorem dX4_digitsOfWay_4 : decode cX4_digitsOfWay 4 = .ok (.iload_n 2, 1) := by decide +kernel
theorem dX4_digitsOfWay_5 : decode cX4_digitsOfWay 5 = .ok (.aload_n 0, 1) := by decide +kernel
theorem dX4_digitsOfWay_6 : decode cX4_digitsOfWay 6 = .ok (.getfield 38, 3) := by decide +kernel
theorem dX4_digitsOfWay_9 : decode cX4_digitsOfWay 9 = .ok (.getfield 196, 3) := by decide +kernel
theorem dX4_digitsOfWay_12 : decode cX4_digitsOfWay 12 = .ok (.if_icmp .ge 32, 3) := by decide +kernel
theorem dX4_digitsOfWay_15 : decode cX4_digitsOfWay 15 = .ok (.iload_n 2, 1) := by decide +kernel
theorem dX4_digitsOfWay_16 : decode cX4_digitsOfWay 16 = .ok (.aload_n 0, 1) := by decide +kernel
theorem dX4_digitsOfWay_17 : decode cX4_digitsOfWay 17 = .ok (.getfield 48, 3) := by decide +kernel
theorem dX4_digitsOfWay_20 : decode cX4_digitsOfWay 20 = .ok (.arraylength, 1) := by decide +kernel
theorem dX4_digitsOfWay_21 : decode cX4_digitsOfWay 21 = .ok (.if_icmp .ge 23, 3) := by decide +kernel
theorem dX4_digitsOfWay_24 : decode cX4_digitsOfWay 24 = .ok (.iload_n 1, 1) := by decide +kernel
theorem dX4_digitsOfWay_25 : decode cX4_digitsOfWay 25 = .ok (.bipush 10, 2) := by decide +kernel
theorem dX4_digitsOfWay_27 : decode cX4_digitsOfWay 27 = .ok (.imul, 1) := by decide +kernel
theorem dX4_digitsOfWay_28 : decode cX4_digitsOfWay 28 = .ok (.aload_n 0, 1) := by decide +kernel
theorem dX4_digitsOfWay_29 : decode cX4_digitsOfWay 29 = .ok (.getfield 48, 3) := by decide +kernel
theorem dX4_digitsOfWay_32 : decode cX4_digitsOfWay 32 = .ok (.iload_n 2, 1) := by decide +kernel
theorem dX4_digitsOfWay_33 : decode cX4_digitsOfWay 33 = .ok (.iaload, 1) := by decide +kernel
theorem dX4_digitsOfWay_34 : decode cX4_digitsOfWay 34 = .ok (.iadd, 1) := by decide +kernel
theorem dX4_digitsOfWay_35 : decode cX4_digitsOfWay 35 = .ok (.iconst 1, 1) := by decide +kernel
theorem dX4_digitsOfWay_36 : decode cX4_digitsOfWay 36 = .ok (.iadd, 1) := by decide +kernel
theorem dX4_digitsOfWay_37 : decode cX4_digitsOfWay 37 = .ok (.istore_n 1, 1) := by decide +kernel
theorem dX4_digitsOfWay_38 : decode cX4_digitsOfWay 38 = .ok (.iinc 2 1, 3) := by decide +kernel
theorem dX4_digitsOfWay_41 : decode cX4_digitsOfWay 41 = .ok (.goto (-37), 3) := by decide +kernel
theorem dX4_digitsOfWay_44 : decode cX4_digitsOfWay 44 = .ok (.iload_n 1, 1) := by decide +kernel
theorem dX4_digitsOfWay_45 : decode cX4_digitsOfWay 45 = .ok (.ireturn, 1) := by decide +kernel
theorem dX4_inLowestTerms_0 : decode cX4_inLowestTerms 0 = .ok (.iload_n 0, 1) := by decide +kernel
theorem dX4_inLowestTerms_1 : decode cX4_inLowestTerms 1 = .ok (.istore_n 3, 1) := by decide +kernel
theorem dX4_inLowestTerms_2 : decode cX4_inLowestTerms 2 = .ok (.iload_n 1, 1) := by decide +kernel
theorem dX4_inLowestTerms_3 : decode cX4_inLowestTerms 3 = .ok (.istore 4, 2) := by decide +kernel
theorem dX4_inLowestTerms_5 : decode cX4_inLowestTerms 5 = .ok (.iconst 0, 1) := by decide +kernel
theorem dX4_inLowestTerms_6 : decode cX4_inLowestTerms 6 = .ok (.istore 5, 2) := by decide +kernel
theorem dX4_inLowestTerms_8 : decode cX4_inLowestTerms 8 = .ok (.iload 5, 2) := by decide +kernel
theorem dX4_inLowestTerms_10 : decode cX4_inLowestTerms 10 = .ok (.bipush 64, 2) := by decide +kernel
theorem dX4_inLowestTerms_12 : decode cX4_inLowestTerms 12 = .ok (.if_icmp .ge 27, 3) := by decide +kernel
theorem dX4_inLowestTerms_15 : decode cX4_inLowestTerms 15 = .ok (.iload 4, 2) := by decide +kernel
theorem dX4_inLowestTerms_17 : decode cX4_inLowestTerms 17 = .ok (.ifCond .eq 22, 3) := by decide +kernel
theorem dX4_inLowestTerms_20 : decode cX4_inLowestTerms 20 = .ok (.iload_n 3, 1) := by decide +kernel
theorem dX4_inLowestTerms_21 : decode cX4_inLowestTerms 21 = .ok (.iload 4, 2) := by decide +kernel
theorem dX4_inLowestTerms_23 : decode cX4_inLowestTerms 23 = .ok (.irem, 1) := by decide +kernel
theorem dX4_inLowestTerms_24 : decode cX4_inLowestTerms 24 = .ok (.istore 6, 2) := by decide +kernel
theorem dX4_inLowestTerms_26 : decode cX4_inLowestTerms 26 = .ok (.iload 4, 2) := by decide +kernel
theorem dX4_inLowestTerms_28 : decode cX4_inLowestTerms 28 = .ok (.istore_n 3, 1) := by decide +kernel
theorem dX4_inLowestTerms_29 : decode cX4_inLowestTerms 29 = .ok (.iload 6, 2) := by decide +kernel
theorem dX4_inLowestTerms_31 : decode cX4_inLowestTerms 31 = .ok (.istore 4, 2) := by decide +kernel
theorem dX4_inLowestTerms_33 : decode cX4_inLowestTerms 33 = .ok (.iinc 5 1, 3) := by decide +kernel
end
section
theorem dX4_inLowestTerms_36 : decode cX4_inLowestTerms 36 = .ok (.goto (-28), 3) := by decide +kernel
theorem dX4_inLowestTerms_39 : decode cX4_inLowestTerms 39 = .ok (.iload_n 3, 1) := by decide +kernel
theorem dX4_inLowestTerms_40 : decode cX4_inLowestTerms 40 = .ok (.ifCond .ne 7, 3) := by decide +kernel
theorem dX4_inLowestTerms_43 : decode cX4_inLowestTerms 43 = .ok (.ldc2_w 214, 3) := by decide +kernel
theorem dX4_inLowestTerms_46 : decode cX4_inLowestTerms 46 = .ok (.lreturn, 1) := by decide +kernel
theorem dX4_inLowestTerms_47 : decode cX4_inLowestTerms 47 = .ok (.iload_n 2, 1) := by decide +kernel
theorem dX4_inLowestTerms_48 : decode cX4_inLowestTerms 48 = .ok (.ifCond .ne 10, 3) := by decide +kernel
theorem dX4_inLowestTerms_51 : decode cX4_inLowestTerms 51 = .ok (.iload_n 0, 1) := by decide +kernel
theorem dX4_inLowestTerms_52 : decode cX4_inLowestTerms 52 = .ok (.iload_n 3, 1) := by decide +kernel
theorem dX4_inLowestTerms_53 : decode cX4_inLowestTerms 53 = .ok (.idiv, 1) := by decide +kernel
theorem dX4_inLowestTerms_54 : decode cX4_inLowestTerms 54 = .ok (.i2l, 1) := by decide +kernel
theorem dX4_inLowestTerms_55 : decode cX4_inLowestTerms 55 = .ok (.goto 7, 3) := by decide +kernel
theorem dX4_inLowestTerms_58 : decode cX4_inLowestTerms 58 = .ok (.iload_n 1, 1) := by decide +kernel
theorem dX4_inLowestTerms_59 : decode cX4_inLowestTerms 59 = .ok (.iload_n 3, 1) := by decide +kernel
theorem dX4_inLowestTerms_60 : decode cX4_inLowestTerms 60 = .ok (.idiv, 1) := by decide +kernel
theorem dX4_inLowestTerms_61 : decode cX4_inLowestTerms 61 = .ok (.i2l, 1) := by decide +kernel
theorem dX4_inLowestTerms_62 : decode cX4_inLowestTerms 62 = .ok (.lreturn, 1) := by decide +kernel
theorem dX4_tells_0 : decode cX4_tells 0 = .ok (.aload_n 0, 1) := by decide +kernel
theorem dX4_tells_1 : decode cX4_tells 1 = .ok (.iload_n 1, 1) := by decide +kernel
theorem dX4_tells_2 : decode cX4_tells 2 = .ok (.invokevirtual 228, 3) := by decide +kernel
theorem dX4_tells_5 : decode cX4_tells 5 = .ok (.astore 5, 2) := by decide +kernel
theorem dX4_tells_7 : decode cX4_tells 7 = .ok (.aload 5, 2) := by decide +kernel
theorem dX4_tells_9 : decode cX4_tells 9 = .ok (.ifnull 37, 3) := by decide +kernel
theorem dX4_tells_12 : decode cX4_tells 12 = .ok (.aload_n 0, 1) := by decide +kernel
theorem dX4_tells_13 : decode cX4_tells 13 = .ok (.getfield 38, 3) := by decide +kernel
theorem dX4_tells_16 : decode cX4_tells 16 = .ok (.iload_n 2, 1) := by decide +kernel
theorem dX4_tells_17 : decode cX4_tells 17 = .ok (.invokevirtual 98, 3) := by decide +kernel
theorem dX4_tells_20 : decode cX4_tells 20 = .ok (.ifCond .eq 26, 3) := by decide +kernel
theorem dX4_tells_23 : decode cX4_tells 23 = .ok (.aload_n 0, 1) := by decide +kernel
theorem dX4_tells_24 : decode cX4_tells 24 = .ok (.getfield 38, 3) := by decide +kernel
theorem dX4_tells_27 : decode cX4_tells 27 = .ok (.iload_n 3, 1) := by decide +kernel
theorem dX4_tells_28 : decode cX4_tells 28 = .ok (.invokevirtual 105, 3) := by decide +kernel
theorem dX4_tells_31 : decode cX4_tells 31 = .ok (.ifCond .eq 15, 3) := by decide +kernel
theorem dX4_tells_34 : decode cX4_tells 34 = .ok (.iload 4, 2) := by decide +kernel
theorem dX4_tells_36 : decode cX4_tells 36 = .ok (.ifCond .lt 10, 3) := by decide +kernel
theorem dX4_tells_39 : decode cX4_tells 39 = .ok (.iload 4, 2) := by decide +kernel
theorem dX4_tells_41 : decode cX4_tells 41 = .ok (.bipush 6, 2) := by decide +kernel
theorem dX4_tells_43 : decode cX4_tells 43 = .ok (.if_icmp .le 6, 3) := by decide +kernel
theorem dX4_tells_46 : decode cX4_tells 46 = .ok (.bipush (-2), 2) := by decide +kernel
theorem dX4_tells_48 : decode cX4_tells 48 = .ok (.ireturn, 1) := by decide +kernel
theorem dX4_tells_49 : decode cX4_tells 49 = .ok (.aload 5, 2) := by decide +kernel
theorem dX4_tells_51 : decode cX4_tells 51 = .ok (.invokevirtual 232, 3) := by decide +kernel
theorem dX4_tells_54 : decode cX4_tells 54 = .ok (.ifCond .eq 6, 3) := by decide +kernel
theorem dX4_tells_57 : decode cX4_tells 57 = .ok (.bipush (-11), 2) := by decide +kernel
theorem dX4_tells_59 : decode cX4_tells 59 = .ok (.ireturn, 1) := by decide +kernel
theorem dX4_tells_60 : decode cX4_tells 60 = .ok (.aload 5, 2) := by decide +kernel
theorem dX4_tells_62 : decode cX4_tells 62 = .ok (.getfield 235, 3) := by decide +kernel
theorem dX4_tells_65 : decode cX4_tells 65 = .ok (.bipush 20, 2) := by decide +kernel
theorem dX4_tells_67 : decode cX4_tells 67 = .ok (.if_icmp .le 6, 3) := by decide +kernel
theorem dX4_tells_70 : decode cX4_tells 70 = .ok (.bipush (-2), 2) := by decide +kernel
theorem dX4_tells_72 : decode cX4_tells 72 = .ok (.ireturn, 1) := by decide +kernel
theorem dX4_tells_73 : decode cX4_tells 73 = .ok (.iload 4, 2) := by decide +kernel
theorem dX4_tells_75 : decode cX4_tells 75 = .ok (.tableswitch 121 0 5 #[37, 59, 72, 85, 94, 103], 37) := by decide +kernel
theorem dX4_tells_112 : decode cX4_tells 112 = .ok (.aload_n 0, 1) := by decide +kernel
theorem dX4_tells_113 : decode cX4_tells 113 = .ok (.getfield 42, 3) := by decide +kernel
theorem dX4_tells_116 : decode cX4_tells 116 = .ok (.aload_n 0, 1) := by decide +kernel
theorem dX4_tells_117 : decode cX4_tells 117 = .ok (.getfield 38, 3) := by decide +kernel
theorem dX4_tells_120 : decode cX4_tells 120 = .ok (.invokevirtual 167, 3) := by decide +kernel
theorem dX4_tells_123 : decode cX4_tells 123 = .ok (.aload_n 0, 1) := by decide +kernel
theorem dX4_tells_124 : decode cX4_tells 124 = .ok (.getfield 42, 3) := by decide +kernel
theorem dX4_tells_127 : decode cX4_tells 127 = .ok (.aload 5, 2) := by decide +kernel
theorem dX4_tells_129 : decode cX4_tells 129 = .ok (.iload_n 2, 1) := by decide +kernel
theorem dX4_tells_130 : decode cX4_tells 130 = .ok (.invokevirtual 236, 3) := by decide +kernel
theorem dX4_tells_133 : decode cX4_tells 133 = .ok (.ireturn, 1) := by decide +kernel
theorem dX4_tells_134 : decode cX4_tells 134 = .ok (.aload_n 0, 1) := by decide +kernel
theorem dX4_tells_135 : decode cX4_tells 135 = .ok (.aload 5, 2) := by decide +kernel
theorem dX4_tells_137 : decode cX4_tells 137 = .ok (.iload_n 2, 1) := by decide +kernel
theorem dX4_tells_138 : decode cX4_tells 138 = .ok (.iload_n 3, 1) := by decide +kernel
theorem dX4_tells_139 : decode cX4_tells 139 = .ok (.iload 4, 2) := by decide +kernel
theorem dX4_tells_141 : decode cX4_tells 141 = .ok (.bipush 6, 2) := by decide +kernel
theorem dX4_tells_143 : decode cX4_tells 143 = .ok (.invokevirtual 240, 3) := by decide +kernel
theorem dX4_tells_146 : decode cX4_tells 146 = .ok (.ireturn, 1) := by decide +kernel
theorem dX4_tells_147 : decode cX4_tells 147 = .ok (.aload_n 0, 1) := by decide +kernel
theorem dX4_tells_148 : decode cX4_tells 148 = .ok (.aload 5, 2) := by decide +kernel
theorem dX4_tells_150 : decode cX4_tells 150 = .ok (.iload_n 2, 1) := by decide +kernel
theorem dX4_tells_151 : decode cX4_tells 151 = .ok (.iload_n 3, 1) := by decide +kernel
theorem dX4_tells_152 : decode cX4_tells 152 = .ok (.iload 4, 2) := by decide +kernel
theorem dX4_tells_154 : decode cX4_tells 154 = .ok (.bipush 10, 2) := by decide +kernel
theorem dX4_tells_156 : decode cX4_tells 156 = .ok (.invokevirtual 240, 3) := by decide +kernel
theorem dX4_tells_159 : decode cX4_tells 159 = .ok (.ireturn, 1) := by decide +kernel
theorem dX4_tells_160 : decode cX4_tells 160 = .ok (.aload_n 0, 1) := by decide +kernel
theorem dX4_tells_161 : decode cX4_tells 161 = .ok (.aload 5, 2) := by decide +kernel
theorem dX4_tells_163 : decode cX4_tells 163 = .ok (.iload_n 2, 1) := by decide +kernel
theorem dX4_tells_164 : decode cX4_tells 164 = .ok (.iconst 0, 1) := by decide +kernel
theorem dX4_tells_165 : decode cX4_tells 165 = .ok (.invokevirtual 244, 3) := by decide +kernel
theorem dX4_tells_168 : decode cX4_tells 168 = .ok (.ireturn, 1) := by decide +kernel
theorem dX4_tells_169 : decode cX4_tells 169 = .ok (.aload_n 0, 1) := by decide +kernel
theorem dX4_tells_170 : decode cX4_tells 170 = .ok (.aload 5, 2) := by decide +kernel
theorem dX4_tells_172 : decode cX4_tells 172 = .ok (.iload_n 2, 1) := by decide +kernel
theorem dX4_tells_173 : decode cX4_tells 173 = .ok (.iconst 1, 1) := by decide +kernel
theorem dX4_tells_174 : decode cX4_tells 174 = .ok (.invokevirtual 244, 3) := by decide +kernel
theorem dX4_tells_177 : decode cX4_tells 177 = .ok (.ireturn, 1) := by decide +kernel
theorem dX4_tells_178 : decode cX4_tells 178 = .ok (.aload_n 0, 1) := by decide +kernel
theorem dX4_tells_179 : decode cX4_tells 179 = .ok (.aload 5, 2) := by decide +kernel
theorem dX4_tells_181 : decode cX4_tells 181 = .ok (.iload_n 2, 1) := by decide +kernel
theorem dX4_tells_182 : decode cX4_tells 182 = .ok (.iload_n 3, 1) := by decide +kernel
theorem dX4_tells_183 : decode cX4_tells 183 = .ok (.iload 4, 2) := by decide +kernel
theorem dX4_tells_185 : decode cX4_tells 185 = .ok (.aload_n 0, 1) := by decide +kernel
theorem dX4_tells_186 : decode cX4_tells 186 = .ok (.getfield 10, 3) := by decide +kernel
theorem dX4_tells_189 : decode cX4_tells 189 = .ok (.getfield 154, 3) := by decide +kernel
theorem dX4_tells_192 : decode cX4_tells 192 = .ok (.invokevirtual 240, 3) := by decide +kernel
theorem dX4_tells_195 : decode cX4_tells 195 = .ok (.ireturn, 1) := by decide +kernel
theorem dX4_tells_196 : decode cX4_tells 196 = .ok (.aload_n 0, 1) := by decide +kernel
theorem dX4_tells_197 : decode cX4_tells 197 = .ok (.aload 5, 2) := by decide +kernel
theorem dX4_tells_199 : decode cX4_tells 199 = .ok (.invokevirtual 248, 3) := by decide +kernel
theorem dX4_tells_202 : decode cX4_tells 202 = .ok (.ireturn, 1) := by decide +kernel
theorem dX4_film_0 : decode cX4_film 0 = .ok (.aload_n 0, 1) := by decide +kernel
theorem dX4_film_1 : decode cX4_film 1 = .ok (.iload_n 1, 1) := by decide +kernel
theorem dX4_film_2 : decode cX4_film 2 = .ok (.invokevirtual 228, 3) := by decide +kernel
theorem dX4_film_5 : decode cX4_film 5 = .ok (.astore 4, 2) := by decide +kernel
theorem dX4_film_7 : decode cX4_film 7 = .ok (.aload 4, 2) := by decide +kernel
theorem dX4_film_9 : decode cX4_film 9 = .ok (.ifnull 24, 3) := by decide +kernel
theorem dX4_film_12 : decode cX4_film 12 = .ok (.aload_n 0, 1) := by decide +kernel
theorem dX4_film_13 : decode cX4_film 13 = .ok (.getfield 38, 3) := by decide +kernel
theorem dX4_film_16 : decode cX4_film 16 = .ok (.iload_n 2, 1) := by decide +kernel
theorem dX4_film_17 : decode cX4_film 17 = .ok (.invokevirtual 98, 3) := by decide +kernel
theorem dX4_film_20 : decode cX4_film 20 = .ok (.ifCond .eq 13, 3) := by decide +kernel
theorem dX4_film_23 : decode cX4_film 23 = .ok (.iload_n 3, 1) := by decide +kernel
theorem dX4_film_24 : decode cX4_film 24 = .ok (.ifCond .lt 9, 3) := by decide +kernel
theorem dX4_film_27 : decode cX4_film 27 = .ok (.iload_n 3, 1) := by decide +kernel
theorem dX4_film_28 : decode cX4_film 28 = .ok (.bipush 20, 2) := by decide +kernel
theorem dX4_film_30 : decode cX4_film 30 = .ok (.if_icmp .le 6, 3) := by decide +kernel
theorem dX4_film_33 : decode cX4_film 33 = .ok (.bipush (-2), 2) := by decide +kernel
theorem dX4_film_35 : decode cX4_film 35 = .ok (.ireturn, 1) := by decide +kernel
theorem dX4_film_36 : decode cX4_film 36 = .ok (.aload 4, 2) := by decide +kernel
theorem dX4_film_38 : decode cX4_film 38 = .ok (.iconst 0, 1) := by decide +kernel
theorem dX4_film_39 : decode cX4_film 39 = .ok (.iload_n 3, 1) := by decide +kernel
theorem dX4_film_40 : decode cX4_film 40 = .ok (.invokevirtual 252, 3) := by decide +kernel
theorem dX4_film_43 : decode cX4_film 43 = .ok (.aload_n 0, 1) := by decide +kernel
theorem dX4_film_44 : decode cX4_film 44 = .ok (.getfield 42, 3) := by decide +kernel
theorem dX4_film_47 : decode cX4_film 47 = .ok (.aload_n 0, 1) := by decide +kernel
theorem dX4_film_48 : decode cX4_film 48 = .ok (.getfield 38, 3) := by decide +kernel
theorem dX4_film_51 : decode cX4_film 51 = .ok (.invokevirtual 167, 3) := by decide +kernel
theorem dX4_film_54 : decode cX4_film 54 = .ok (.iconst 0, 1) := by decide +kernel
theorem dX4_film_55 : decode cX4_film 55 = .ok (.istore 5, 2) := by decide +kernel
theorem dX4_film_57 : decode cX4_film 57 = .ok (.iload 5, 2) := by decide +kernel
theorem dX4_film_59 : decode cX4_film 59 = .ok (.iload_n 3, 1) := by decide +kernel
theorem dX4_film_60 : decode cX4_film 60 = .ok (.if_icmp .ge 32, 3) := by decide +kernel
theorem dX4_film_63 : decode cX4_film 63 = .ok (.aload_n 0, 1) := by decide +kernel
theorem dX4_film_64 : decode cX4_film 64 = .ok (.getfield 42, 3) := by decide +kernel
theorem dX4_film_67 : decode cX4_film 67 = .ok (.iload_n 2, 1) := by decide +kernel
theorem dX4_film_68 : decode cX4_film 68 = .ok (.invokevirtual 178, 3) := by decide +kernel
theorem dX4_film_71 : decode cX4_film 71 = .ok (.aload 4, 2) := by decide +kernel
theorem dX4_film_73 : decode cX4_film 73 = .ok (.iload 5, 2) := by decide +kernel
theorem dX4_film_75 : decode cX4_film 75 = .ok (.aload_n 0, 1) := by decide +kernel
theorem dX4_film_76 : decode cX4_film 76 = .ok (.getfield 42, 3) := by decide +kernel
theorem dX4_film_79 : decode cX4_film 79 = .ok (.iload_n 2, 1) := by decide +kernel
theorem dX4_film_80 : decode cX4_film 80 = .ok (.invokevirtual 138, 3) := by decide +kernel
theorem dX4_film_83 : decode cX4_film 83 = .ok (.invokevirtual 255, 3) := by decide +kernel
theorem dX4_film_86 : decode cX4_film 86 = .ok (.iinc 5 1, 3) := by decide +kernel
theorem dX4_film_89 : decode cX4_film 89 = .ok (.goto (-32), 3) := by decide +kernel
theorem dX4_film_92 : decode cX4_film 92 = .ok (.iload_n 3, 1) := by decide +kernel
theorem dX4_film_93 : decode cX4_film 93 = .ok (.ireturn, 1) := by decide +kernel
theorem dX4_drawn_0 : decode cX4_drawn 0 = .ok (.iload_n 2, 1) := by decide +kernel
theorem dX4_drawn_1 : decode cX4_drawn 1 = .ok (.ifCond .lt 9, 3) := by decide +kernel
theorem dX4_drawn_4 : decode cX4_drawn 4 = .ok (.iload_n 2, 1) := by decide +kernel
theorem dX4_drawn_5 : decode cX4_drawn 5 = .ok (.bipush 40, 2) := by decide +kernel
theorem dX4_drawn_7 : decode cX4_drawn 7 = .ok (.if_icmp .le 8, 3) := by decide +kernel
theorem dX4_drawn_10 : decode cX4_drawn 10 = .ok (.bipush (-2), 2) := by decide +kernel
theorem dX4_drawn_12 : decode cX4_drawn 12 = .ok (.goto 9, 3) := by decide +kernel
theorem dX4_drawn_15 : decode cX4_drawn 15 = .ok (.aload_n 0, 1) := by decide +kernel
theorem dX4_drawn_16 : decode cX4_drawn 16 = .ok (.iload_n 1, 1) := by decide +kernel
theorem dX4_drawn_17 : decode cX4_drawn 17 = .ok (.iload_n 2, 1) := by decide +kernel
theorem dX4_drawn_18 : decode cX4_drawn 18 = .ok (.invokevirtual 258, 3) := by decide +kernel
theorem dX4_drawn_21 : decode cX4_drawn 21 = .ok (.ireturn, 1) := by decide +kernel
theorem dX4_chance_0 : decode cX4_chance 0 = .ok (.iload_n 2, 1) := by decide +kernel
theorem dX4_chance_1 : decode cX4_chance 1 = .ok (.iconst 1, 1) := by decide +kernel
theorem dX4_chance_2 : decode cX4_chance 2 = .ok (.if_icmp .lt 30, 3) := by decide +kernel
theorem dX4_chance_5 : decode cX4_chance 5 = .ok (.iload_n 2, 1) := by decide +kernel
theorem dX4_chance_6 : decode cX4_chance 6 = .ok (.bipush 20, 2) := by decide +kernel
theorem dX4_chance_8 : decode cX4_chance 8 = .ok (.if_icmp .gt 24, 3) := by decide +kernel
theorem dX4_chance_11 : decode cX4_chance 11 = .ok (.iload_n 3, 1) := by decide +kernel
theorem dX4_chance_12 : decode cX4_chance 12 = .ok (.ifCond .lt 20, 3) := by decide +kernel
theorem dX4_chance_15 : decode cX4_chance 15 = .ok (.iload_n 3, 1) := by decide +kernel
theorem dX4_chance_16 : decode cX4_chance 16 = .ok (.bipush 8, 2) := by decide +kernel
theorem dX4_chance_18 : decode cX4_chance 18 = .ok (.if_icmp .gt 14, 3) := by decide +kernel
theorem dX4_chance_21 : decode cX4_chance 21 = .ok (.iload 4, 2) := by decide +kernel
theorem dX4_chance_23 : decode cX4_chance 23 = .ok (.ifCond .lt 9, 3) := by decide +kernel
theorem dX4_chance_26 : decode cX4_chance 26 = .ok (.iload 4, 2) := by decide +kernel
theorem dX4_chance_28 : decode cX4_chance 28 = .ok (.iconst 1, 1) := by decide +kernel
theorem dX4_chance_29 : decode cX4_chance 29 = .ok (.if_icmp .le 7, 3) := by decide +kernel
theorem dX4_chance_32 : decode cX4_chance 32 = .ok (.ldc2_w 214, 3) := by decide +kernel
theorem dX4_chance_35 : decode cX4_chance 35 = .ok (.lreturn, 1) := by decide +kernel
theorem dX4_chance_36 : decode cX4_chance 36 = .ok (.iconst 0, 1) := by decide +kernel
theorem dX4_chance_37 : decode cX4_chance 37 = .ok (.istore 5, 2) := by decide +kernel
theorem dX4_chance_39 : decode cX4_chance 39 = .ok (.iconst 0, 1) := by decide +kernel
theorem dX4_chance_40 : decode cX4_chance 40 = .ok (.istore 6, 2) := by decide +kernel
theorem dX4_chance_42 : decode cX4_chance 42 = .ok (.iload 6, 2) := by decide +kernel
theorem dX4_chance_44 : decode cX4_chance 44 = .ok (.iload_n 2, 1) := by decide +kernel
theorem dX4_chance_45 : decode cX4_chance 45 = .ok (.if_icmp .ge 26, 3) := by decide +kernel
theorem dX4_chance_48 : decode cX4_chance 48 = .ok (.aload_n 0, 1) := by decide +kernel
theorem dX4_chance_49 : decode cX4_chance 49 = .ok (.iload_n 1, 1) := by decide +kernel
theorem dX4_chance_50 : decode cX4_chance 50 = .ok (.iload 6, 2) := by decide +kernel
theorem dX4_chance_52 : decode cX4_chance 52 = .ok (.iadd, 1) := by decide +kernel
theorem dX4_chance_53 : decode cX4_chance 53 = .ok (.bipush 10, 2) := by decide +kernel
theorem dX4_chance_55 : decode cX4_chance 55 = .ok (.invokevirtual 258, 3) := by decide +kernel
theorem dX4_chance_58 : decode cX4_chance 58 = .ok (.iload_n 3, 1) := by decide +kernel
theorem dX4_chance_59 : decode cX4_chance 59 = .ok (.if_icmp .lt 6, 3) := by decide +kernel
theorem dX4_chance_62 : decode cX4_chance 62 = .ok (.iinc 5 1, 3) := by decide +kernel
theorem dX4_chance_65 : decode cX4_chance 65 = .ok (.iinc 6 1, 3) := by decide +kernel
theorem dX4_chance_68 : decode cX4_chance 68 = .ok (.goto (-26), 3) := by decide +kernel
theorem dX4_chance_71 : decode cX4_chance 71 = .ok (.iload 5, 2) := by decide +kernel
theorem dX4_chance_73 : decode cX4_chance 73 = .ok (.iload_n 2, 1) := by decide +kernel
theorem dX4_chance_74 : decode cX4_chance 74 = .ok (.iload 4, 2) := by decide +kernel
theorem dX4_chance_76 : decode cX4_chance 76 = .ok (.invokestatic 216, 3) := by decide +kernel
theorem dX4_chance_79 : decode cX4_chance 79 = .ok (.lreturn, 1) := by decide +kernel
theorem dX4_image_0 : decode cX4_image 0 = .ok (.aload_n 0, 1) := by decide +kernel
theorem dX4_image_1 : decode cX4_image 1 = .ok (.getfield 45, 3) := by decide +kernel
theorem dX4_image_4 : decode cX4_image 4 = .ok (.aload_n 0, 1) := by decide +kernel
theorem dX4_image_5 : decode cX4_image 5 = .ok (.getfield 38, 3) := by decide +kernel
theorem dX4_image_8 : decode cX4_image 8 = .ok (.invokevirtual 167, 3) := by decide +kernel
theorem dX4_image_11 : decode cX4_image 11 = .ok (.aload_n 0, 1) := by decide +kernel
theorem dX4_image_12 : decode cX4_image 12 = .ok (.iconst 1, 1) := by decide +kernel
theorem dX4_image_13 : decode cX4_image 13 = .ok (.putfield 261, 3) := by decide +kernel
theorem dX4_image_16 : decode cX4_image 16 = .ok (.aload_n 0, 1) := by decide +kernel
theorem dX4_image_17 : decode cX4_image 17 = .ok (.getfield 38, 3) := by decide +kernel
theorem dX4_image_20 : decode cX4_image 20 = .ok (.getfield 196, 3) := by decide +kernel
theorem dX4_image_23 : decode cX4_image 23 = .ok (.ireturn, 1) := by decide +kernel
theorem dX4_back_0 : decode cX4_back 0 = .ok (.aload_n 0, 1) := by decide +kernel
theorem dX4_back_1 : decode cX4_back 1 = .ok (.getfield 261, 3) := by decide +kernel
theorem dX4_back_4 : decode cX4_back 4 = .ok (.ifCond .ne 6, 3) := by decide +kernel
theorem dX4_back_7 : decode cX4_back 7 = .ok (.bipush (-3), 2) := by decide +kernel
theorem dX4_back_9 : decode cX4_back 9 = .ok (.ireturn, 1) := by decide +kernel
theorem dX4_back_10 : decode cX4_back 10 = .ok (.aload_n 0, 1) := by decide +kernel
theorem dX4_back_11 : decode cX4_back 11 = .ok (.getfield 38, 3) := by decide +kernel
theorem dX4_back_14 : decode cX4_back 14 = .ok (.aload_n 0, 1) := by decide +kernel
theorem dX4_back_15 : decode cX4_back 15 = .ok (.getfield 45, 3) := by decide +kernel
theorem dX4_back_18 : decode cX4_back 18 = .ok (.invokevirtual 167, 3) := by decide +kernel
theorem dX4_back_21 : decode cX4_back 21 = .ok (.aload_n 0, 1) := by decide +kernel
theorem dX4_back_22 : decode cX4_back 22 = .ok (.getfield 38, 3) := by decide +kernel
theorem dX4_back_25 : decode cX4_back 25 = .ok (.getfield 196, 3) := by decide +kernel
theorem dX4_back_28 : decode cX4_back 28 = .ok (.ireturn, 1) := by decide +kernel
theorem dX4_count_0 : decode cX4_count 0 = .ok (.iload_n 1, 1) := by decide +kernel
theorem dX4_count_1 : decode cX4_count 1 = .ok (.tableswitch 87 0 5 #[39, 47, 55, 63, 71, 79], 39) := by decide +kernel
theorem dX4_count_40 : decode cX4_count 40 = .ok (.aload_n 0, 1) := by decide +kernel
theorem dX4_count_41 : decode cX4_count 41 = .ok (.getfield 38, 3) := by decide +kernel
theorem dX4_count_44 : decode cX4_count 44 = .ok (.getfield 196, 3) := by decide +kernel
theorem dX4_count_47 : decode cX4_count 47 = .ok (.ireturn, 1) := by decide +kernel
theorem dX4_count_48 : decode cX4_count 48 = .ok (.aload_n 0, 1) := by decide +kernel
theorem dX4_count_49 : decode cX4_count 49 = .ok (.getfield 38, 3) := by decide +kernel
theorem dX4_count_52 : decode cX4_count 52 = .ok (.getfield 211, 3) := by decide +kernel
theorem dX4_count_55 : decode cX4_count 55 = .ok (.ireturn, 1) := by decide +kernel
theorem dX4_count_56 : decode cX4_count 56 = .ok (.aload_n 0, 1) := by decide +kernel
theorem dX4_count_57 : decode cX4_count 57 = .ok (.getfield 38, 3) := by decide +kernel
theorem dX4_count_60 : decode cX4_count 60 = .ok (.invokevirtual 175, 3) := by decide +kernel
theorem dX4_count_63 : decode cX4_count 63 = .ok (.ireturn, 1) := by decide +kernel
theorem dX4_count_64 : decode cX4_count 64 = .ok (.aload_n 0, 1) := by decide +kernel
theorem dX4_count_65 : decode cX4_count 65 = .ok (.getfield 10, 3) := by decide +kernel
theorem dX4_count_68 : decode cX4_count 68 = .ok (.getfield 154, 3) := by decide +kernel
theorem dX4_count_71 : decode cX4_count 71 = .ok (.ireturn, 1) := by decide +kernel
theorem dX4_count_72 : decode cX4_count 72 = .ok (.aload_n 0, 1) := by decide +kernel
theorem dX4_count_73 : decode cX4_count 73 = .ok (.getfield 21, 3) := by decide +kernel
theorem dX4_count_76 : decode cX4_count 76 = .ok (.getfield 147, 3) := by decide +kernel
theorem dX4_count_79 : decode cX4_count 79 = .ok (.ireturn, 1) := by decide +kernel
theorem dX4_count_80 : decode cX4_count 80 = .ok (.aload_n 0, 1) := by decide +kernel
theorem dX4_count_81 : decode cX4_count 81 = .ok (.getfield 38, 3) := by decide +kernel
theorem dX4_count_84 : decode cX4_count 84 = .ok (.getfield 158, 3) := by decide +kernel
theorem dX4_count_87 : decode cX4_count 87 = .ok (.ireturn, 1) := by decide +kernel
theorem dX4_count_88 : decode cX4_count 88 = .ok (.bipush (-2), 2) := by decide +kernel
theorem dX4_count_90 : decode cX4_count 90 = .ok (.ireturn, 1) := by decide +kernel
theorem dX4_allSo_0 : decode cX4_allSo 0 = .ok (.iconst 0, 1) := by decide +kernel
theorem dX4_allSo_1 : decode cX4_allSo 1 = .ok (.istore 6, 2) := by decide +kernel
theorem dX4_allSo_3 : decode cX4_allSo 3 = .ok (.iconst 0, 1) := by decide +kernel
theorem dX4_allSo_4 : decode cX4_allSo 4 = .ok (.istore 7, 2) := by decide +kernel
theorem dX4_allSo_6 : decode cX4_allSo 6 = .ok (.iload 7, 2) := by decide +kernel
theorem dX4_allSo_8 : decode cX4_allSo 8 = .ok (.iload 5, 2) := by decide +kernel
theorem dX4_allSo_10 : decode cX4_allSo 10 = .ok (.if_icmp .ge 105, 3) := by decide +kernel
theorem dX4_allSo_13 : decode cX4_allSo 13 = .ok (.aload_n 0, 1) := by decide +kernel
theorem dX4_allSo_14 : decode cX4_allSo 14 = .ok (.getfield 42, 3) := by decide +kernel
theorem dX4_allSo_17 : decode cX4_allSo 17 = .ok (.aload_n 0, 1) := by decide +kernel
theorem dX4_allSo_18 : decode cX4_allSo 18 = .ok (.getfield 38, 3) := by decide +kernel
theorem dX4_allSo_21 : decode cX4_allSo 21 = .ok (.invokevirtual 167, 3) := by decide +kernel
theorem dX4_allSo_24 : decode cX4_allSo 24 = .ok (.iload 4, 2) := by decide +kernel
theorem dX4_allSo_26 : decode cX4_allSo 26 = .ok (.lookupswitch 52 #[(1, 26), (2, 39)], 26) := by decide +kernel
theorem dX4_allSo_52 : decode cX4_allSo 52 = .ok (.aload_n 0, 1) := by decide +kernel
theorem dX4_allSo_53 : decode cX4_allSo 53 = .ok (.getfield 42, 3) := by decide +kernel
theorem dX4_allSo_56 : decode cX4_allSo 56 = .ok (.iload_n 3, 1) := by decide +kernel
theorem dX4_allSo_57 : decode cX4_allSo 57 = .ok (.iload 7, 2) := by decide +kernel
theorem dX4_allSo_59 : decode cX4_allSo 59 = .ok (.invokevirtual 265, 3) := by decide +kernel
theorem dX4_allSo_62 : decode cX4_allSo 62 = .ok (.goto 25, 3) := by decide +kernel
theorem dX4_allSo_65 : decode cX4_allSo 65 = .ok (.aload_n 0, 1) := by decide +kernel
theorem dX4_allSo_66 : decode cX4_allSo 66 = .ok (.getfield 42, 3) := by decide +kernel
theorem dX4_allSo_69 : decode cX4_allSo 69 = .ok (.iload_n 3, 1) := by decide +kernel
theorem dX4_allSo_70 : decode cX4_allSo 70 = .ok (.iload 7, 2) := by decide +kernel
theorem dX4_allSo_72 : decode cX4_allSo 72 = .ok (.invokevirtual 74, 3) := by decide +kernel
theorem dX4_allSo_75 : decode cX4_allSo 75 = .ok (.goto 12, 3) := by decide +kernel
theorem dX4_allSo_78 : decode cX4_allSo 78 = .ok (.aload_n 0, 1) := by decide +kernel
theorem dX4_allSo_79 : decode cX4_allSo 79 = .ok (.getfield 42, 3) := by decide +kernel
theorem dX4_allSo_82 : decode cX4_allSo 82 = .ok (.iload 7, 2) := by decide +kernel
theorem dX4_allSo_84 : decode cX4_allSo 84 = .ok (.putfield 158, 3) := by decide +kernel
theorem dX4_allSo_87 : decode cX4_allSo 87 = .ok (.aload_n 0, 1) := by decide +kernel
theorem dX4_allSo_88 : decode cX4_allSo 88 = .ok (.getfield 42, 3) := by decide +kernel
theorem dX4_allSo_91 : decode cX4_allSo 91 = .ok (.aload_n 1, 1) := by decide +kernel
theorem dX4_allSo_92 : decode cX4_allSo 92 = .ok (.iload_n 2, 1) := by decide +kernel
theorem dX4_allSo_93 : decode cX4_allSo 93 = .ok (.invokevirtual 236, 3) := by decide +kernel
theorem dX4_allSo_96 : decode cX4_allSo 96 = .ok (.iconst (-1), 1) := by decide +kernel
theorem dX4_allSo_97 : decode cX4_allSo 97 = .ok (.if_icmp .ne 12, 3) := by decide +kernel
theorem dX4_allSo_100 : decode cX4_allSo 100 = .ok (.iload 6, 2) := by decide +kernel
theorem dX4_allSo_102 : decode cX4_allSo 102 = .ok (.iconst 1, 1) := by decide +kernel
theorem dX4_allSo_103 : decode cX4_allSo 103 = .ok (.iload 7, 2) := by decide +kernel
theorem dX4_allSo_105 : decode cX4_allSo 105 = .ok (.ishl, 1) := by decide +kernel
theorem dX4_allSo_106 : decode cX4_allSo 106 = .ok (.ior, 1) := by decide +kernel
theorem dX4_allSo_107 : decode cX4_allSo 107 = .ok (.istore 6, 2) := by decide +kernel
theorem dX4_allSo_109 : decode cX4_allSo 109 = .ok (.iinc 7 1, 3) := by decide +kernel
theorem dX4_allSo_112 : decode cX4_allSo 112 = .ok (.goto (-106), 3) := by decide +kernel
theorem dX4_allSo_115 : decode cX4_allSo 115 = .ok (.iload 6, 2) := by decide +kernel
theorem dX4_allSo_117 : decode cX4_allSo 117 = .ok (.ireturn, 1) := by decide +kernel
theorem dX4_daysSo_0 : decode cX4_daysSo 0 = .ok (.iconst 0, 1) := by decide +kernel
theorem dX4_daysSo_1 : decode cX4_daysSo 1 = .ok (.istore 4, 2) := by decide +kernel
theorem dX4_daysSo_3 : decode cX4_daysSo 3 = .ok (.iconst 0, 1) := by decide +kernel
theorem dX4_daysSo_4 : decode cX4_daysSo 4 = .ok (.istore 5, 2) := by decide +kernel
theorem dX4_daysSo_6 : decode cX4_daysSo 6 = .ok (.iload 5, 2) := by decide +kernel
theorem dX4_daysSo_8 : decode cX4_daysSo 8 = .ok (.bipush 100, 2) := by decide +kernel
theorem dX4_daysSo_10 : decode cX4_daysSo 10 = .ok (.if_icmp .ge 52, 3) := by decide +kernel
theorem dX4_daysSo_13 : decode cX4_daysSo 13 = .ok (.aload_n 0, 1) := by decide +kernel
theorem dX4_daysSo_14 : decode cX4_daysSo 14 = .ok (.getfield 42, 3) := by decide +kernel
theorem dX4_daysSo_17 : decode cX4_daysSo 17 = .ok (.aload_n 0, 1) := by decide +kernel
theorem dX4_daysSo_18 : decode cX4_daysSo 18 = .ok (.getfield 38, 3) := by decide +kernel
theorem dX4_daysSo_21 : decode cX4_daysSo 21 = .ok (.invokevirtual 167, 3) := by decide +kernel
theorem dX4_daysSo_24 : decode cX4_daysSo 24 = .ok (.aload_n 0, 1) := by decide +kernel
theorem dX4_daysSo_25 : decode cX4_daysSo 25 = .ok (.getfield 42, 3) := by decide +kernel
theorem dX4_daysSo_28 : decode cX4_daysSo 28 = .ok (.iload 5, 2) := by decide +kernel
theorem dX4_daysSo_30 : decode cX4_daysSo 30 = .ok (.putfield 67, 3) := by decide +kernel
theorem dX4_daysSo_33 : decode cX4_daysSo 33 = .ok (.aload_n 0, 1) := by decide +kernel
theorem dX4_daysSo_34 : decode cX4_daysSo 34 = .ok (.getfield 42, 3) := by decide +kernel
theorem dX4_daysSo_37 : decode cX4_daysSo 37 = .ok (.aload_n 1, 1) := by decide +kernel
theorem dX4_daysSo_38 : decode cX4_daysSo 38 = .ok (.iload_n 2, 1) := by decide +kernel
theorem dX4_daysSo_39 : decode cX4_daysSo 39 = .ok (.invokevirtual 236, 3) := by decide +kernel
theorem dX4_daysSo_42 : decode cX4_daysSo 42 = .ok (.iconst (-1), 1) := by decide +kernel
theorem dX4_daysSo_43 : decode cX4_daysSo 43 = .ok (.if_icmp .ne 13, 3) := by decide +kernel
theorem dX4_daysSo_46 : decode cX4_daysSo 46 = .ok (.iload_n 3, 1) := by decide +kernel
theorem dX4_daysSo_47 : decode cX4_daysSo 47 = .ok (.ifCond .eq 6, 3) := by decide +kernel
theorem dX4_daysSo_50 : decode cX4_daysSo 50 = .ok (.iload 5, 2) := by decide +kernel
theorem dX4_daysSo_52 : decode cX4_daysSo 52 = .ok (.ireturn, 1) := by decide +kernel
theorem dX4_daysSo_53 : decode cX4_daysSo 53 = .ok (.iinc 4 1, 3) := by decide +kernel
theorem dX4_daysSo_56 : decode cX4_daysSo 56 = .ok (.iinc 5 1, 3) := by decide +kernel
theorem dX4_daysSo_59 : decode cX4_daysSo 59 = .ok (.goto (-53), 3) := by decide +kernel
theorem dX4_daysSo_62 : decode cX4_daysSo 62 = .ok (.iload_n 3, 1) := by decide +kernel
theorem dX4_daysSo_63 : decode cX4_daysSo 63 = .ok (.ifCond .eq 7, 3) := by decide +kernel
theorem dX4_daysSo_66 : decode cX4_daysSo 66 = .ok (.iconst (-1), 1) := by decide +kernel
theorem dX4_daysSo_67 : decode cX4_daysSo 67 = .ok (.goto 5, 3) := by decide +kernel
theorem dX4_daysSo_70 : decode cX4_daysSo 70 = .ok (.iload 4, 2) := by decide +kernel
theorem dX4_daysSo_72 : decode cX4_daysSo 72 = .ok (.ireturn, 1) := by decide +kernel
theorem dX4_lettersSo_0 : decode cX4_lettersSo 0 = .ok (.iconst 0, 1) := by decide +kernel
theorem dX4_lettersSo_1 : decode cX4_lettersSo 1 = .ok (.istore_n 2, 1) := by decide +kernel
theorem dX4_lettersSo_2 : decode cX4_lettersSo 2 = .ok (.iconst 0, 1) := by decide +kernel
theorem dX4_lettersSo_3 : decode cX4_lettersSo 3 = .ok (.istore_n 3, 1) := by decide +kernel
theorem dX4_lettersSo_4 : decode cX4_lettersSo 4 = .ok (.iload_n 3, 1) := by decide +kernel
theorem dX4_lettersSo_5 : decode cX4_lettersSo 5 = .ok (.aload_n 0, 1) := by decide +kernel
theorem dX4_lettersSo_6 : decode cX4_lettersSo 6 = .ok (.getfield 38, 3) := by decide +kernel
theorem dX4_lettersSo_9 : decode cX4_lettersSo 9 = .ok (.getfield 211, 3) := by decide +kernel
theorem dX4_lettersSo_12 : decode cX4_lettersSo 12 = .ok (.if_icmp .ge 39, 3) := by decide +kernel
theorem dX4_lettersSo_15 : decode cX4_lettersSo 15 = .ok (.aload_n 0, 1) := by decide +kernel
theorem dX4_lettersSo_16 : decode cX4_lettersSo 16 = .ok (.getfield 42, 3) := by decide +kernel
theorem dX4_lettersSo_19 : decode cX4_lettersSo 19 = .ok (.aload_n 0, 1) := by decide +kernel
theorem dX4_lettersSo_20 : decode cX4_lettersSo 20 = .ok (.getfield 38, 3) := by decide +kernel
theorem dX4_lettersSo_23 : decode cX4_lettersSo 23 = .ok (.invokevirtual 167, 3) := by decide +kernel
theorem dX4_lettersSo_26 : decode cX4_lettersSo 26 = .ok (.aload_n 0, 1) := by decide +kernel
theorem dX4_lettersSo_27 : decode cX4_lettersSo 27 = .ok (.getfield 42, 3) := by decide +kernel
theorem dX4_lettersSo_30 : decode cX4_lettersSo 30 = .ok (.aload_n 1, 1) := by decide +kernel
theorem dX4_lettersSo_31 : decode cX4_lettersSo 31 = .ok (.iload_n 3, 1) := by decide +kernel
theorem dX4_lettersSo_32 : decode cX4_lettersSo 32 = .ok (.invokevirtual 236, 3) := by decide +kernel
theorem dX4_lettersSo_35 : decode cX4_lettersSo 35 = .ok (.iconst (-1), 1) := by decide +kernel
theorem dX4_lettersSo_36 : decode cX4_lettersSo 36 = .ok (.if_icmp .ne 9, 3) := by decide +kernel
theorem dX4_lettersSo_39 : decode cX4_lettersSo 39 = .ok (.iload_n 2, 1) := by decide +kernel
theorem dX4_lettersSo_40 : decode cX4_lettersSo 40 = .ok (.iconst 1, 1) := by decide +kernel
theorem dX4_lettersSo_41 : decode cX4_lettersSo 41 = .ok (.iload_n 3, 1) := by decide +kernel
theorem dX4_lettersSo_42 : decode cX4_lettersSo 42 = .ok (.ishl, 1) := by decide +kernel
theorem dX4_lettersSo_43 : decode cX4_lettersSo 43 = .ok (.ior, 1) := by decide +kernel
theorem dX4_lettersSo_44 : decode cX4_lettersSo 44 = .ok (.istore_n 2, 1) := by decide +kernel
theorem dX4_lettersSo_45 : decode cX4_lettersSo 45 = .ok (.iinc 3 1, 3) := by decide +kernel
theorem dX4_lettersSo_48 : decode cX4_lettersSo 48 = .ok (.goto (-44), 3) := by decide +kernel
theorem dX4_lettersSo_51 : decode cX4_lettersSo 51 = .ok (.iload_n 2, 1) := by decide +kernel
theorem dX4_lettersSo_52 : decode cX4_lettersSo 52 = .ok (.ireturn, 1) := by decide +kernel
theorem dX4_homesDrawn_0 : decode cX4_homesDrawn 0 = .ok (.aload_n 0, 1) := by decide +kernel
theorem dX4_homesDrawn_1 : decode cX4_homesDrawn 1 = .ok (.getfield 42, 3) := by decide +kernel
theorem dX4_homesDrawn_4 : decode cX4_homesDrawn 4 = .ok (.aload_n 0, 1) := by decide +kernel
theorem dX4_homesDrawn_5 : decode cX4_homesDrawn 5 = .ok (.getfield 38, 3) := by decide +kernel
theorem dX4_homesDrawn_8 : decode cX4_homesDrawn 8 = .ok (.invokevirtual 167, 3) := by decide +kernel
theorem dX4_homesDrawn_11 : decode cX4_homesDrawn 11 = .ok (.iload_n 1, 1) := by decide +kernel
theorem dX4_homesDrawn_12 : decode cX4_homesDrawn 12 = .ok (.istore_n 3, 1) := by decide +kernel
theorem dX4_homesDrawn_13 : decode cX4_homesDrawn 13 = .ok (.iconst 0, 1) := by decide +kernel
theorem dX4_homesDrawn_14 : decode cX4_homesDrawn 14 = .ok (.istore 4, 2) := by decide +kernel
theorem dX4_homesDrawn_16 : decode cX4_homesDrawn 16 = .ok (.iload 4, 2) := by decide +kernel
theorem dX4_homesDrawn_18 : decode cX4_homesDrawn 18 = .ok (.iload_n 2, 1) := by decide +kernel
theorem dX4_homesDrawn_19 : decode cX4_homesDrawn 19 = .ok (.if_icmp .ge 81, 3) := by decide +kernel
theorem dX4_homesDrawn_22 : decode cX4_homesDrawn 22 = .ok (.iload_n 3, 1) := by decide +kernel
theorem dX4_homesDrawn_23 : decode cX4_homesDrawn 23 = .ok (.ldc_w 268, 3) := by decide +kernel
theorem dX4_homesDrawn_26 : decode cX4_homesDrawn 26 = .ok (.imul, 1) := by decide +kernel
theorem dX4_homesDrawn_27 : decode cX4_homesDrawn 27 = .ok (.sipush 12345, 3) := by decide +kernel
theorem dX4_homesDrawn_30 : decode cX4_homesDrawn 30 = .ok (.iadd, 1) := by decide +kernel
theorem dX4_homesDrawn_31 : decode cX4_homesDrawn 31 = .ok (.istore_n 3, 1) := by decide +kernel
theorem dX4_homesDrawn_32 : decode cX4_homesDrawn 32 = .ok (.iload_n 3, 1) := by decide +kernel
theorem dX4_homesDrawn_33 : decode cX4_homesDrawn 33 = .ok (.bipush 9, 2) := by decide +kernel
theorem dX4_homesDrawn_35 : decode cX4_homesDrawn 35 = .ok (.iushr, 1) := by decide +kernel
theorem dX4_homesDrawn_36 : decode cX4_homesDrawn 36 = .ok (.bipush 8, 2) := by decide +kernel
theorem dX4_homesDrawn_38 : decode cX4_homesDrawn 38 = .ok (.irem, 1) := by decide +kernel
theorem dX4_homesDrawn_39 : decode cX4_homesDrawn 39 = .ok (.istore 5, 2) := by decide +kernel
theorem dX4_homesDrawn_41 : decode cX4_homesDrawn 41 = .ok (.iload_n 3, 1) := by decide +kernel
theorem dX4_homesDrawn_42 : decode cX4_homesDrawn 42 = .ok (.ldc_w 268, 3) := by decide +kernel
theorem dX4_homesDrawn_45 : decode cX4_homesDrawn 45 = .ok (.imul, 1) := by decide +kernel
theorem dX4_homesDrawn_46 : decode cX4_homesDrawn 46 = .ok (.sipush 12345, 3) := by decide +kernel
theorem dX4_homesDrawn_49 : decode cX4_homesDrawn 49 = .ok (.iadd, 1) := by decide +kernel
theorem dX4_homesDrawn_50 : decode cX4_homesDrawn 50 = .ok (.istore_n 3, 1) := by decide +kernel
theorem dX4_homesDrawn_51 : decode cX4_homesDrawn 51 = .ok (.iload_n 3, 1) := by decide +kernel
theorem dX4_homesDrawn_52 : decode cX4_homesDrawn 52 = .ok (.bipush 9, 2) := by decide +kernel
theorem dX4_homesDrawn_54 : decode cX4_homesDrawn 54 = .ok (.iushr, 1) := by decide +kernel
theorem dX4_homesDrawn_55 : decode cX4_homesDrawn 55 = .ok (.bipush 8, 2) := by decide +kernel
theorem dX4_homesDrawn_57 : decode cX4_homesDrawn 57 = .ok (.irem, 1) := by decide +kernel
theorem dX4_homesDrawn_58 : decode cX4_homesDrawn 58 = .ok (.istore 6, 2) := by decide +kernel
theorem dX4_homesDrawn_60 : decode cX4_homesDrawn 60 = .ok (.aload_n 0, 1) := by decide +kernel
theorem dX4_homesDrawn_61 : decode cX4_homesDrawn 61 = .ok (.getfield 42, 3) := by decide +kernel
theorem dX4_homesDrawn_64 : decode cX4_homesDrawn 64 = .ok (.iload 5, 2) := by decide +kernel
theorem dX4_homesDrawn_66 : decode cX4_homesDrawn 66 = .ok (.iload 6, 2) := by decide +kernel
theorem dX4_homesDrawn_68 : decode cX4_homesDrawn 68 = .ok (.invokevirtual 88, 3) := by decide +kernel
theorem dX4_homesDrawn_71 : decode cX4_homesDrawn 71 = .ok (.ifCond .eq 15, 3) := by decide +kernel
theorem dX4_homesDrawn_74 : decode cX4_homesDrawn 74 = .ok (.aload_n 0, 1) := by decide +kernel
theorem dX4_homesDrawn_75 : decode cX4_homesDrawn 75 = .ok (.getfield 42, 3) := by decide +kernel
theorem dX4_homesDrawn_78 : decode cX4_homesDrawn 78 = .ok (.iload 5, 2) := by decide +kernel
theorem dX4_homesDrawn_80 : decode cX4_homesDrawn 80 = .ok (.iload 6, 2) := by decide +kernel
theorem dX4_homesDrawn_82 : decode cX4_homesDrawn 82 = .ok (.invokevirtual 161, 3) := by decide +kernel
theorem dX4_homesDrawn_85 : decode cX4_homesDrawn 85 = .ok (.pop, 1) := by decide +kernel
theorem dX4_homesDrawn_86 : decode cX4_homesDrawn 86 = .ok (.aload_n 0, 1) := by decide +kernel
theorem dX4_homesDrawn_87 : decode cX4_homesDrawn 87 = .ok (.getfield 42, 3) := by decide +kernel
theorem dX4_homesDrawn_90 : decode cX4_homesDrawn 90 = .ok (.invokevirtual 164, 3) := by decide +kernel
theorem dX4_homesDrawn_93 : decode cX4_homesDrawn 93 = .ok (.pop, 1) := by decide +kernel
theorem dX4_homesDrawn_94 : decode cX4_homesDrawn 94 = .ok (.iinc 4 1, 3) := by decide +kernel
theorem dX4_homesDrawn_97 : decode cX4_homesDrawn 97 = .ok (.goto (-81), 3) := by decide +kernel
theorem dX4_homesDrawn_100 : decode cX4_homesDrawn 100 = .ok (.aload_n 0, 1) := by decide +kernel
theorem dX4_homesDrawn_101 : decode cX4_homesDrawn 101 = .ok (.getfield 42, 3) := by decide +kernel
theorem dX4_homesDrawn_104 : decode cX4_homesDrawn 104 = .ok (.invokevirtual 175, 3) := by decide +kernel
theorem dX4_homesDrawn_107 : decode cX4_homesDrawn 107 = .ok (.ireturn, 1) := by decide +kernel
theorem dX4_sheet_0 : decode cX4_sheet 0 = .ok (.aload_n 0, 1) := by decide +kernel
theorem dX4_sheet_1 : decode cX4_sheet 1 = .ok (.iload_n 1, 1) := by decide +kernel
theorem dX4_sheet_2 : decode cX4_sheet 2 = .ok (.invokevirtual 228, 3) := by decide +kernel
theorem dX4_sheet_5 : decode cX4_sheet 5 = .ok (.astore 4, 2) := by decide +kernel
theorem dX4_sheet_7 : decode cX4_sheet 7 = .ok (.aload 4, 2) := by decide +kernel
theorem dX4_sheet_9 : decode cX4_sheet 9 = .ok (.ifnull 13, 3) := by decide +kernel
theorem dX4_sheet_12 : decode cX4_sheet 12 = .ok (.iload_n 2, 1) := by decide +kernel
theorem dX4_sheet_13 : decode cX4_sheet 13 = .ok (.iconst (-1), 1) := by decide +kernel
theorem dX4_sheet_14 : decode cX4_sheet 14 = .ok (.if_icmp .lt 8, 3) := by decide +kernel
theorem dX4_sheet_17 : decode cX4_sheet 17 = .ok (.iload_n 2, 1) := by decide +kernel
theorem dX4_sheet_18 : decode cX4_sheet 18 = .ok (.iconst 2, 1) := by decide +kernel
theorem dX4_sheet_19 : decode cX4_sheet 19 = .ok (.if_icmp .le 6, 3) := by decide +kernel
theorem dX4_sheet_22 : decode cX4_sheet 22 = .ok (.bipush (-2), 2) := by decide +kernel
theorem dX4_sheet_24 : decode cX4_sheet 24 = .ok (.ireturn, 1) := by decide +kernel
theorem dX4_sheet_25 : decode cX4_sheet 25 = .ok (.iload_n 2, 1) := by decide +kernel
theorem dX4_sheet_26 : decode cX4_sheet 26 = .ok (.iconst (-1), 1) := by decide +kernel
theorem dX4_sheet_27 : decode cX4_sheet 27 = .ok (.if_icmp .ne 12, 3) := by decide +kernel
theorem dX4_sheet_30 : decode cX4_sheet 30 = .ok (.aload 4, 2) := by decide +kernel
theorem dX4_sheet_32 : decode cX4_sheet 32 = .ok (.iload_n 2, 1) := by decide +kernel
theorem dX4_sheet_33 : decode cX4_sheet 33 = .ok (.iconst 0, 1) := by decide +kernel
theorem dX4_sheet_34 : decode cX4_sheet 34 = .ok (.invokevirtual 252, 3) := by decide +kernel
theorem dX4_sheet_37 : decode cX4_sheet 37 = .ok (.iconst 1, 1) := by decide +kernel
theorem dX4_sheet_38 : decode cX4_sheet 38 = .ok (.ireturn, 1) := by decide +kernel
theorem dX4_sheet_39 : decode cX4_sheet 39 = .ok (.iload_n 3, 1) := by decide +kernel
theorem dX4_sheet_40 : decode cX4_sheet 40 = .ok (.bipush 40, 2) := by decide +kernel
theorem dX4_sheet_42 : decode cX4_sheet 42 = .ok (.if_icmp .le 6, 3) := by decide +kernel
theorem dX4_sheet_45 : decode cX4_sheet 45 = .ok (.bipush (-2), 2) := by decide +kernel
theorem dX4_sheet_47 : decode cX4_sheet 47 = .ok (.ireturn, 1) := by decide +kernel
theorem dX4_sheet_48 : decode cX4_sheet 48 = .ok (.iload_n 3, 1) := by decide +kernel
theorem dX4_sheet_49 : decode cX4_sheet 49 = .ok (.ifCond .ge 6, 3) := by decide +kernel
theorem dX4_sheet_52 : decode cX4_sheet 52 = .ok (.bipush (-14), 2) := by decide +kernel
theorem dX4_sheet_54 : decode cX4_sheet 54 = .ok (.ireturn, 1) := by decide +kernel
theorem dX4_sheet_55 : decode cX4_sheet 55 = .ok (.aload 4, 2) := by decide +kernel
theorem dX4_sheet_57 : decode cX4_sheet 57 = .ok (.iload_n 2, 1) := by decide +kernel
theorem dX4_sheet_58 : decode cX4_sheet 58 = .ok (.iload_n 3, 1) := by decide +kernel
theorem dX4_sheet_59 : decode cX4_sheet 59 = .ok (.invokevirtual 252, 3) := by decide +kernel
theorem dX4_sheet_62 : decode cX4_sheet 62 = .ok (.iconst 1, 1) := by decide +kernel
theorem dX4_sheet_63 : decode cX4_sheet 63 = .ok (.ireturn, 1) := by decide +kernel
theorem dX4_cell_0 : decode cX4_cell 0 = .ok (.aload_n 0, 1) := by decide +kernel
theorem dX4_cell_1 : decode cX4_cell 1 = .ok (.iload_n 1, 1) := by decide +kernel
theorem dX4_cell_2 : decode cX4_cell 2 = .ok (.invokevirtual 228, 3) := by decide +kernel
theorem dX4_cell_5 : decode cX4_cell 5 = .ok (.astore 4, 2) := by decide +kernel
theorem dX4_cell_7 : decode cX4_cell 7 = .ok (.aload 4, 2) := by decide +kernel
theorem dX4_cell_9 : decode cX4_cell 9 = .ok (.ifnonnull 6, 3) := by decide +kernel
theorem dX4_cell_12 : decode cX4_cell 12 = .ok (.bipush (-2), 2) := by decide +kernel
theorem dX4_cell_14 : decode cX4_cell 14 = .ok (.ireturn, 1) := by decide +kernel
theorem dX4_cell_15 : decode cX4_cell 15 = .ok (.aload 4, 2) := by decide +kernel
theorem dX4_cell_17 : decode cX4_cell 17 = .ok (.invokevirtual 232, 3) := by decide +kernel
theorem dX4_cell_20 : decode cX4_cell 20 = .ok (.ifCond .eq 6, 3) := by decide +kernel
theorem dX4_cell_23 : decode cX4_cell 23 = .ok (.bipush (-11), 2) := by decide +kernel
theorem dX4_cell_25 : decode cX4_cell 25 = .ok (.ireturn, 1) := by decide +kernel
theorem dX4_cell_26 : decode cX4_cell 26 = .ok (.aload 4, 2) := by decide +kernel
theorem dX4_cell_28 : decode cX4_cell 28 = .ok (.iload_n 2, 1) := by decide +kernel
theorem dX4_cell_29 : decode cX4_cell 29 = .ok (.invokevirtual 269, 3) := by decide +kernel
theorem dX4_cell_32 : decode cX4_cell 32 = .ok (.ifCond .ne 6, 3) := by decide +kernel
theorem dX4_cell_35 : decode cX4_cell 35 = .ok (.bipush (-12), 2) := by decide +kernel
theorem dX4_cell_37 : decode cX4_cell 37 = .ok (.ireturn, 1) := by decide +kernel
theorem dX4_cell_38 : decode cX4_cell 38 = .ok (.aload 4, 2) := by decide +kernel
theorem dX4_cell_40 : decode cX4_cell 40 = .ok (.iload_n 2, 1) := by decide +kernel
theorem dX4_cell_41 : decode cX4_cell 41 = .ok (.iload_n 3, 1) := by decide +kernel
theorem dX4_cell_42 : decode cX4_cell 42 = .ok (.invokevirtual 255, 3) := by decide +kernel
theorem dX4_cell_45 : decode cX4_cell 45 = .ok (.iconst 1, 1) := by decide +kernel
theorem dX4_cell_46 : decode cX4_cell 46 = .ok (.ireturn, 1) := by decide +kernel
theorem dX4_copy_0 : decode cX4_copy 0 = .ok (.aload_n 0, 1) := by decide +kernel
theorem dX4_copy_1 : decode cX4_copy 1 = .ok (.iload_n 1, 1) := by decide +kernel
theorem dX4_copy_2 : decode cX4_copy 2 = .ok (.invokevirtual 228, 3) := by decide +kernel
theorem dX4_copy_5 : decode cX4_copy 5 = .ok (.astore 6, 2) := by decide +kernel
theorem dX4_copy_7 : decode cX4_copy 7 = .ok (.aload_n 0, 1) := by decide +kernel
theorem dX4_copy_8 : decode cX4_copy 8 = .ok (.iload_n 3, 1) := by decide +kernel
theorem dX4_copy_9 : decode cX4_copy 9 = .ok (.invokevirtual 228, 3) := by decide +kernel
theorem dX4_copy_12 : decode cX4_copy 12 = .ok (.astore 7, 2) := by decide +kernel
theorem dX4_copy_14 : decode cX4_copy 14 = .ok (.aload 6, 2) := by decide +kernel
theorem dX4_copy_16 : decode cX4_copy 16 = .ok (.ifnull 8, 3) := by decide +kernel
theorem dX4_copy_19 : decode cX4_copy 19 = .ok (.aload 7, 2) := by decide +kernel
theorem dX4_copy_21 : decode cX4_copy 21 = .ok (.ifnonnull 6, 3) := by decide +kernel
theorem dX4_copy_24 : decode cX4_copy 24 = .ok (.bipush (-2), 2) := by decide +kernel
theorem dX4_copy_26 : decode cX4_copy 26 = .ok (.ireturn, 1) := by decide +kernel
theorem dX4_copy_27 : decode cX4_copy 27 = .ok (.aload 6, 2) := by decide +kernel
theorem dX4_copy_29 : decode cX4_copy 29 = .ok (.invokevirtual 232, 3) := by decide +kernel
theorem dX4_copy_32 : decode cX4_copy 32 = .ok (.ifCond .ne 11, 3) := by decide +kernel
theorem dX4_copy_35 : decode cX4_copy 35 = .ok (.aload 7, 2) := by decide +kernel
theorem dX4_copy_37 : decode cX4_copy 37 = .ok (.invokevirtual 232, 3) := by decide +kernel
theorem dX4_copy_40 : decode cX4_copy 40 = .ok (.ifCond .eq 6, 3) := by decide +kernel
theorem dX4_copy_43 : decode cX4_copy 43 = .ok (.bipush (-11), 2) := by decide +kernel
theorem dX4_copy_45 : decode cX4_copy 45 = .ok (.ireturn, 1) := by decide +kernel
theorem dX4_copy_46 : decode cX4_copy 46 = .ok (.aload 6, 2) := by decide +kernel
theorem dX4_copy_48 : decode cX4_copy 48 = .ok (.getfield 272, 3) := by decide +kernel
theorem dX4_copy_51 : decode cX4_copy 51 = .ok (.aload 7, 2) := by decide +kernel
theorem dX4_copy_53 : decode cX4_copy 53 = .ok (.getfield 272, 3) := by decide +kernel
theorem dX4_copy_56 : decode cX4_copy 56 = .ok (.if_icmp .eq 6, 3) := by decide +kernel
theorem dX4_copy_59 : decode cX4_copy 59 = .ok (.bipush (-13), 2) := by decide +kernel
theorem dX4_copy_61 : decode cX4_copy 61 = .ok (.ireturn, 1) := by decide +kernel
theorem dX4_copy_62 : decode cX4_copy 62 = .ok (.aload 6, 2) := by decide +kernel
theorem dX4_copy_64 : decode cX4_copy 64 = .ok (.iload_n 2, 1) := by decide +kernel
theorem dX4_copy_65 : decode cX4_copy 65 = .ok (.iload 5, 2) := by decide +kernel
theorem dX4_copy_67 : decode cX4_copy 67 = .ok (.invokevirtual 275, 3) := by decide +kernel
theorem dX4_copy_70 : decode cX4_copy 70 = .ok (.ifCond .eq 15, 3) := by decide +kernel
theorem dX4_copy_73 : decode cX4_copy 73 = .ok (.aload 7, 2) := by decide +kernel
theorem dX4_copy_75 : decode cX4_copy 75 = .ok (.iload 4, 2) := by decide +kernel
theorem dX4_copy_77 : decode cX4_copy 77 = .ok (.iload 5, 2) := by decide +kernel
theorem dX4_copy_79 : decode cX4_copy 79 = .ok (.invokevirtual 275, 3) := by decide +kernel
theorem dX4_copy_82 : decode cX4_copy 82 = .ok (.ifCond .ne 6, 3) := by decide +kernel
theorem dX4_copy_85 : decode cX4_copy 85 = .ok (.bipush (-12), 2) := by decide +kernel
theorem dX4_copy_87 : decode cX4_copy 87 = .ok (.ireturn, 1) := by decide +kernel
theorem dX4_copy_88 : decode cX4_copy 88 = .ok (.aload 6, 2) := by decide +kernel
theorem dX4_copy_90 : decode cX4_copy 90 = .ok (.getfield 278, 3) := by decide +kernel
theorem dX4_copy_93 : decode cX4_copy 93 = .ok (.iload_n 2, 1) := by decide +kernel
theorem dX4_copy_94 : decode cX4_copy 94 = .ok (.aload 7, 2) := by decide +kernel
theorem dX4_copy_96 : decode cX4_copy 96 = .ok (.getfield 278, 3) := by decide +kernel
theorem dX4_copy_99 : decode cX4_copy 99 = .ok (.iload 4, 2) := by decide +kernel
theorem dX4_copy_101 : decode cX4_copy 101 = .ok (.iload 5, 2) := by decide +kernel
theorem dX4_copy_103 : decode cX4_copy 103 = .ok (.invokestatic 281, 3) := by decide +kernel
theorem dX4_copy_106 : decode cX4_copy 106 = .ok (.iload 5, 2) := by decide +kernel
theorem dX4_copy_108 : decode cX4_copy 108 = .ok (.ireturn, 1) := by decide +kernel
theorem dX4_hill_0 : decode cX4_hill 0 = .ok (.aload_n 0, 1) := by decide +kernel
theorem dX4_hill_1 : decode cX4_hill 1 = .ok (.iload_n 1, 1) := by decide +kernel
theorem dX4_hill_2 : decode cX4_hill 2 = .ok (.invokevirtual 228, 3) := by decide +kernel
theorem dX4_hill_5 : decode cX4_hill 5 = .ok (.astore 5, 2) := by decide +kernel
theorem dX4_hill_7 : decode cX4_hill 7 = .ok (.aload 5, 2) := by decide +kernel
theorem dX4_hill_9 : decode cX4_hill 9 = .ok (.ifnull 23, 3) := by decide +kernel
theorem dX4_hill_12 : decode cX4_hill 12 = .ok (.iload_n 2, 1) := by decide +kernel
theorem dX4_hill_13 : decode cX4_hill 13 = .ok (.ifCond .lt 19, 3) := by decide +kernel
theorem dX4_hill_16 : decode cX4_hill 16 = .ok (.iload_n 2, 1) := by decide +kernel
theorem dX4_hill_17 : decode cX4_hill 17 = .ok (.iconst 2, 1) := by decide +kernel
theorem dX4_hill_18 : decode cX4_hill 18 = .ok (.if_icmp .gt 14, 3) := by decide +kernel
theorem dX4_hill_21 : decode cX4_hill 21 = .ok (.iload 4, 2) := by decide +kernel
theorem dX4_hill_23 : decode cX4_hill 23 = .ok (.ifCond .lt 9, 3) := by decide +kernel
theorem dX4_hill_26 : decode cX4_hill 26 = .ok (.iload 4, 2) := by decide +kernel
theorem dX4_hill_28 : decode cX4_hill 28 = .ok (.iconst 5, 1) := by decide +kernel
theorem dX4_hill_29 : decode cX4_hill 29 = .ok (.if_icmp .le 6, 3) := by decide +kernel
theorem dX4_hill_32 : decode cX4_hill 32 = .ok (.bipush (-2), 2) := by decide +kernel
theorem dX4_hill_34 : decode cX4_hill 34 = .ok (.ireturn, 1) := by decide +kernel
theorem dX4_hill_35 : decode cX4_hill 35 = .ok (.aload 5, 2) := by decide +kernel
theorem dX4_hill_37 : decode cX4_hill 37 = .ok (.invokevirtual 232, 3) := by decide +kernel
theorem dX4_hill_40 : decode cX4_hill 40 = .ok (.ifCond .ne 15, 3) := by decide +kernel
theorem dX4_hill_43 : decode cX4_hill 43 = .ok (.aload 5, 2) := by decide +kernel
theorem dX4_hill_45 : decode cX4_hill 45 = .ok (.getfield 272, 3) := by decide +kernel
theorem dX4_hill_48 : decode cX4_hill 48 = .ok (.iload_n 2, 1) := by decide +kernel
theorem dX4_hill_49 : decode cX4_hill 49 = .ok (.if_icmp .eq 6, 3) := by decide +kernel
theorem dX4_hill_52 : decode cX4_hill 52 = .ok (.bipush (-13), 2) := by decide +kernel
theorem dX4_hill_54 : decode cX4_hill 54 = .ok (.ireturn, 1) := by decide +kernel
theorem dX4_hill_55 : decode cX4_hill 55 = .ok (.aload 5, 2) := by decide +kernel
theorem dX4_hill_57 : decode cX4_hill 57 = .ok (.invokevirtual 232, 3) := by decide +kernel
theorem dX4_hill_60 : decode cX4_hill 60 = .ok (.ifCond .eq 6, 3) := by decide +kernel
theorem dX4_hill_63 : decode cX4_hill 63 = .ok (.bipush (-11), 2) := by decide +kernel
theorem dX4_hill_65 : decode cX4_hill 65 = .ok (.ireturn, 1) := by decide +kernel
theorem dX4_hill_66 : decode cX4_hill 66 = .ok (.iconst 0, 1) := by decide +kernel
theorem dX4_hill_67 : decode cX4_hill 67 = .ok (.istore 6, 2) := by decide +kernel
theorem dX4_hill_69 : decode cX4_hill 69 = .ok (.iload_n 3, 1) := by decide +kernel
theorem dX4_hill_70 : decode cX4_hill 70 = .ok (.istore 7, 2) := by decide +kernel
theorem dX4_hill_72 : decode cX4_hill 72 = .ok (.iconst 0, 1) := by decide +kernel
theorem dX4_hill_73 : decode cX4_hill 73 = .ok (.istore 8, 2) := by decide +kernel
theorem dX4_hill_75 : decode cX4_hill 75 = .ok (.iload 8, 2) := by decide +kernel
theorem dX4_hill_77 : decode cX4_hill 77 = .ok (.iload 4, 2) := by decide +kernel
theorem dX4_hill_79 : decode cX4_hill 79 = .ok (.if_icmp .ge 61, 3) := by decide +kernel
theorem dX4_hill_82 : decode cX4_hill 82 = .ok (.aload 5, 2) := by decide +kernel
theorem dX4_hill_84 : decode cX4_hill 84 = .ok (.iload 7, 2) := by decide +kernel
theorem dX4_hill_86 : decode cX4_hill 86 = .ok (.iconst 3, 1) := by decide +kernel
theorem dX4_hill_87 : decode cX4_hill 87 = .ok (.invokevirtual 275, 3) := by decide +kernel
theorem dX4_hill_90 : decode cX4_hill 90 = .ok (.ifCond .ne 6, 3) := by decide +kernel
theorem dX4_hill_93 : decode cX4_hill 93 = .ok (.bipush (-12), 2) := by decide +kernel
theorem dX4_hill_95 : decode cX4_hill 95 = .ok (.ireturn, 1) := by decide +kernel
theorem dX4_hill_96 : decode cX4_hill 96 = .ok (.aload_n 0, 1) := by decide +kernel
theorem dX4_hill_97 : decode cX4_hill 97 = .ok (.aload 5, 2) := by decide +kernel
theorem dX4_hill_99 : decode cX4_hill 99 = .ok (.iload 7, 2) := by decide +kernel
theorem dX4_hill_101 : decode cX4_hill 101 = .ok (.invokevirtual 287, 3) := by decide +kernel
theorem dX4_hill_104 : decode cX4_hill 104 = .ok (.aload 5, 2) := by decide +kernel
theorem dX4_hill_106 : decode cX4_hill 106 = .ok (.iload 7, 2) := by decide +kernel
theorem dX4_hill_108 : decode cX4_hill 108 = .ok (.iconst 1, 1) := by decide +kernel
theorem dX4_hill_109 : decode cX4_hill 109 = .ok (.iadd, 1) := by decide +kernel
theorem dX4_hill_110 : decode cX4_hill 110 = .ok (.invokevirtual 287, 3) := by decide +kernel
theorem dX4_hill_113 : decode cX4_hill 113 = .ok (.aload 5, 2) := by decide +kernel
theorem dX4_hill_115 : decode cX4_hill 115 = .ok (.iload 7, 2) := by decide +kernel
theorem dX4_hill_117 : decode cX4_hill 117 = .ok (.iconst 2, 1) := by decide +kernel
theorem dX4_hill_118 : decode cX4_hill 118 = .ok (.iadd, 1) := by decide +kernel
theorem dX4_hill_119 : decode cX4_hill 119 = .ok (.invokevirtual 287, 3) := by decide +kernel
theorem dX4_hill_122 : decode cX4_hill 122 = .ok (.invokevirtual 290, 3) := by decide +kernel
theorem dX4_hill_125 : decode cX4_hill 125 = .ok (.ifCond .lt 6, 3) := by decide +kernel
theorem dX4_hill_128 : decode cX4_hill 128 = .ok (.iinc 6 1, 3) := by decide +kernel
theorem dX4_hill_131 : decode cX4_hill 131 = .ok (.iinc 7 3, 3) := by decide +kernel
theorem dX4_hill_134 : decode cX4_hill 134 = .ok (.iinc 8 1, 3) := by decide +kernel
theorem dX4_hill_137 : decode cX4_hill 137 = .ok (.goto (-62), 3) := by decide +kernel
theorem dX4_hill_140 : decode cX4_hill 140 = .ok (.iload 6, 2) := by decide +kernel
theorem dX4_hill_142 : decode cX4_hill 142 = .ok (.ireturn, 1) := by decide +kernel
theorem dX4_taken_0 : decode cX4_taken 0 = .ok (.iload_n 2, 1) := by decide +kernel
theorem dX4_taken_1 : decode cX4_taken 1 = .ok (.ifCond .lt 8, 3) := by decide +kernel
theorem dX4_taken_4 : decode cX4_taken 4 = .ok (.iload_n 2, 1) := by decide +kernel
theorem dX4_taken_5 : decode cX4_taken 5 = .ok (.iconst 5, 1) := by decide +kernel
theorem dX4_taken_6 : decode cX4_taken 6 = .ok (.if_icmp .le 6, 3) := by decide +kernel
theorem dX4_taken_9 : decode cX4_taken 9 = .ok (.bipush (-2), 2) := by decide +kernel
theorem dX4_taken_11 : decode cX4_taken 11 = .ok (.ireturn, 1) := by decide +kernel
theorem dX4_taken_12 : decode cX4_taken 12 = .ok (.aload_n 0, 1) := by decide +kernel
theorem dX4_taken_13 : decode cX4_taken 13 = .ok (.getfield 38, 3) := by decide +kernel
theorem dX4_taken_16 : decode cX4_taken 16 = .ok (.iload_n 1, 1) := by decide +kernel
theorem dX4_taken_17 : decode cX4_taken 17 = .ok (.invokevirtual 105, 3) := by decide +kernel
theorem dX4_taken_20 : decode cX4_taken 20 = .ok (.ifCond .ne 6, 3) := by decide +kernel
theorem dX4_taken_23 : decode cX4_taken 23 = .ok (.bipush (-11), 2) := by decide +kernel
theorem dX4_taken_25 : decode cX4_taken 25 = .ok (.ireturn, 1) := by decide +kernel
theorem dX4_taken_26 : decode cX4_taken 26 = .ok (.aload_n 0, 1) := by decide +kernel
theorem dX4_taken_27 : decode cX4_taken 27 = .ok (.getfield 38, 3) := by decide +kernel
theorem dX4_taken_30 : decode cX4_taken 30 = .ok (.iload_n 1, 1) := by decide +kernel
theorem dX4_taken_31 : decode cX4_taken 31 = .ok (.invokevirtual 123, 3) := by decide +kernel
theorem dX4_taken_34 : decode cX4_taken 34 = .ok (.iload_n 2, 1) := by decide +kernel
theorem dX4_taken_35 : decode cX4_taken 35 = .ok (.invokestatic 293, 3) := by decide +kernel
theorem dX4_taken_38 : decode cX4_taken 38 = .ok (.ifCond .eq 14, 3) := by decide +kernel
theorem dX4_taken_41 : decode cX4_taken 41 = .ok (.aload_n 0, 1) := by decide +kernel
theorem dX4_taken_42 : decode cX4_taken 42 = .ok (.getfield 38, 3) := by decide +kernel
theorem dX4_taken_45 : decode cX4_taken 45 = .ok (.iload_n 1, 1) := by decide +kernel
theorem dX4_taken_46 : decode cX4_taken 46 = .ok (.invokevirtual 120, 3) := by decide +kernel
theorem dX4_taken_49 : decode cX4_taken 49 = .ok (.goto 5, 3) := by decide +kernel
theorem dX4_taken_52 : decode cX4_taken 52 = .ok (.bipush (-13), 2) := by decide +kernel
theorem dX4_taken_54 : decode cX4_taken 54 = .ok (.ireturn, 1) := by decide +kernel
theorem dX4_sheetNumbered_0 : decode cX4_sheetNumbered 0 = .ok (.iload_n 1, 1) := by decide +kernel
theorem dX4_sheetNumbered_1 : decode cX4_sheetNumbered 1 = .ok (.ifCond .lt 21, 3) := by decide +kernel
theorem dX4_sheetNumbered_4 : decode cX4_sheetNumbered 4 = .ok (.iload_n 1, 1) := by decide +kernel
theorem dX4_sheetNumbered_5 : decode cX4_sheetNumbered 5 = .ok (.aload_n 0, 1) := by decide +kernel
theorem dX4_sheetNumbered_6 : decode cX4_sheetNumbered 6 = .ok (.getfield 54, 3) := by decide +kernel
theorem dX4_sheetNumbered_9 : decode cX4_sheetNumbered 9 = .ok (.arraylength, 1) := by decide +kernel
theorem dX4_sheetNumbered_10 : decode cX4_sheetNumbered 10 = .ok (.if_icmp .ge 12, 3) := by decide +kernel
theorem dX4_sheetNumbered_13 : decode cX4_sheetNumbered 13 = .ok (.aload_n 0, 1) := by decide +kernel
theorem dX4_sheetNumbered_14 : decode cX4_sheetNumbered 14 = .ok (.getfield 54, 3) := by decide +kernel
theorem dX4_sheetNumbered_17 : decode cX4_sheetNumbered 17 = .ok (.iload_n 1, 1) := by decide +kernel
theorem dX4_sheetNumbered_18 : decode cX4_sheetNumbered 18 = .ok (.aaload, 1) := by decide +kernel
theorem dX4_sheetNumbered_19 : decode cX4_sheetNumbered 19 = .ok (.goto 4, 3) := by decide +kernel
theorem dX4_sheetNumbered_22 : decode cX4_sheetNumbered 22 = .ok (.aconst_null, 1) := by decide +kernel
theorem dX4_sheetNumbered_23 : decode cX4_sheetNumbered 23 = .ok (.areturn, 1) := by decide +kernel
theorem dX5_in_0 : decode cX5_in 0 = .ok (.lload_n 0, 1) := by decide +kernel
theorem dX5_in_1 : decode cX5_in 1 = .ok (.lload_n 2, 1) := by decide +kernel
theorem dX5_in_2 : decode cX5_in 2 = .ok (.lcmp, 1) := by decide +kernel
theorem dX5_in_3 : decode cX5_in 3 = .ok (.ifCond .lt 14, 3) := by decide +kernel
theorem dX5_in_6 : decode cX5_in 6 = .ok (.lload_n 0, 1) := by decide +kernel
theorem dX5_in_7 : decode cX5_in 7 = .ok (.lload 4, 2) := by decide +kernel
theorem dX5_in_9 : decode cX5_in 9 = .ok (.lcmp, 1) := by decide +kernel
theorem dX5_in_10 : decode cX5_in 10 = .ok (.ifCond .gt 7, 3) := by decide +kernel
theorem dX5_in_13 : decode cX5_in 13 = .ok (.iconst 1, 1) := by decide +kernel
theorem dX5_in_14 : decode cX5_in 14 = .ok (.goto 4, 3) := by decide +kernel
theorem dX5_in_17 : decode cX5_in 17 = .ok (.iconst 0, 1) := by decide +kernel
theorem dX5_in_18 : decode cX5_in 18 = .ok (.ireturn, 1) := by decide +kernel
theorem dX5_within_0 : decode cX5_within 0 = .ok (.iload_n 0, 1) := by decide +kernel
theorem dX5_within_1 : decode cX5_within 1 = .ok (.iload_n 1, 1) := by decide +kernel
theorem dX5_within_2 : decode cX5_within 2 = .ok (.if_icmp .ge 7, 3) := by decide +kernel
theorem dX5_within_5 : decode cX5_within 5 = .ok (.iload_n 1, 1) := by decide +kernel
theorem dX5_within_6 : decode cX5_within 6 = .ok (.goto 13, 3) := by decide +kernel
theorem dX5_within_9 : decode cX5_within 9 = .ok (.iload_n 0, 1) := by decide +kernel
theorem dX5_within_10 : decode cX5_within 10 = .ok (.iload_n 2, 1) := by decide +kernel
theorem dX5_within_11 : decode cX5_within 11 = .ok (.if_icmp .le 7, 3) := by decide +kernel
theorem dX5_within_14 : decode cX5_within 14 = .ok (.iload_n 2, 1) := by decide +kernel
theorem dX5_within_15 : decode cX5_within 15 = .ok (.goto 4, 3) := by decide +kernel
theorem dX5_within_18 : decode cX5_within 18 = .ok (.iload_n 0, 1) := by decide +kernel
theorem dX5_within_19 : decode cX5_within 19 = .ok (.ireturn, 1) := by decide +kernel
theorem dX5_init_0 : decode cX5_init 0 = .ok (.aload_n 0, 1) := by decide +kernel
theorem dX5_init_1 : decode cX5_init 1 = .ok (.invokespecial 7, 3) := by decide +kernel
theorem dX5_init_4 : decode cX5_init 4 = .ok (.aload_n 0, 1) := by decide +kernel
theorem dX5_init_5 : decode cX5_init 5 = .ok (.sipush 960, 3) := by decide +kernel
theorem dX5_init_8 : decode cX5_init 8 = .ok (.newarray .int, 2) := by decide +kernel
theorem dX5_init_10 : decode cX5_init 10 = .ok (.putfield 13, 3) := by decide +kernel
theorem dX5_init_13 : decode cX5_init 13 = .ok (.aload_n 0, 1) := by decide +kernel
theorem dX5_init_14 : decode cX5_init 14 = .ok (.bipush 6, 2) := by decide +kernel
theorem dX5_init_16 : decode cX5_init 16 = .ok (.newarray .int, 2) := by decide +kernel
theorem dX5_init_18 : decode cX5_init 18 = .ok (.putfield 17, 3) := by decide +kernel
theorem dX5_init_21 : decode cX5_init 21 = .ok (.aload_n 0, 1) := by decide +kernel
theorem dX5_init_22 : decode cX5_init 22 = .ok (.sipush 160, 3) := by decide +kernel
theorem dX5_init_25 : decode cX5_init 25 = .ok (.newarray .int, 2) := by decide +kernel
theorem dX5_init_27 : decode cX5_init 27 = .ok (.putfield 20, 3) := by decide +kernel
theorem dX5_init_30 : decode cX5_init 30 = .ok (.aload_n 0, 1) := by decide +kernel
theorem dX5_init_31 : decode cX5_init 31 = .ok (.iconst 1, 1) := by decide +kernel
theorem dX5_init_32 : decode cX5_init 32 = .ok (.putfield 23, 3) := by decide +kernel
theorem dX5_init_35 : decode cX5_init 35 = .ok (.aload_n 0, 1) := by decide +kernel
theorem dX5_init_36 : decode cX5_init 36 = .ok (.bipush 15, 2) := by decide +kernel
theorem dX5_init_38 : decode cX5_init 38 = .ok (.newarray .int, 2) := by decide +kernel
theorem dX5_init_40 : decode cX5_init 40 = .ok (.putfield 26, 3) := by decide +kernel
theorem dX5_init_43 : decode cX5_init 43 = .ok (.aload_n 0, 1) := by decide +kernel
theorem dX5_init_44 : decode cX5_init 44 = .ok (.bipush 40, 2) := by decide +kernel
theorem dX5_init_46 : decode cX5_init 46 = .ok (.newarray .int, 2) := by decide +kernel
theorem dX5_init_48 : decode cX5_init 48 = .ok (.putfield 29, 3) := by decide +kernel
theorem dX5_init_51 : decode cX5_init 51 = .ok (.aload_n 0, 1) := by decide +kernel
theorem dX5_init_52 : decode cX5_init 52 = .ok (.bipush 42, 2) := by decide +kernel
theorem dX5_init_54 : decode cX5_init 54 = .ok (.newarray .int, 2) := by decide +kernel
theorem dX5_init_56 : decode cX5_init 56 = .ok (.putfield 32, 3) := by decide +kernel
theorem dX5_init_59 : decode cX5_init 59 = .ok (.aload_n 0, 1) := by decide +kernel
theorem dX5_init_60 : decode cX5_init 60 = .ok (.iconst 5, 1) := by decide +kernel
theorem dX5_init_61 : decode cX5_init 61 = .ok (.newarray .int, 2) := by decide +kernel
theorem dX5_init_63 : decode cX5_init 63 = .ok (.putfield 35, 3) := by decide +kernel
theorem dX5_init_66 : decode cX5_init 66 = .ok (.aload_n 0, 1) := by decide +kernel
theorem dX5_init_67 : decode cX5_init 67 = .ok (.iconst 5, 1) := by decide +kernel
theorem dX5_init_68 : decode cX5_init 68 = .ok (.newarray .int, 2) := by decide +kernel
theorem dX5_init_70 : decode cX5_init 70 = .ok (.putfield 38, 3) := by decide +kernel
theorem dX5_init_73 : decode cX5_init 73 = .ok (.aload_n 0, 1) := by decide +kernel
theorem dX5_init_74 : decode cX5_init 74 = .ok (.bipush 15, 2) := by decide +kernel
theorem dX5_init_76 : decode cX5_init 76 = .ok (.newarray .int, 2) := by decide +kernel
theorem dX5_init_78 : decode cX5_init 78 = .ok (.putfield 41, 3) := by decide +kernel
theorem dX5_init_81 : decode cX5_init 81 = .ok (.aload_n 0, 1) := by decide +kernel
theorem dX5_init_82 : decode cX5_init 82 = .ok (.bipush 15, 2) := by decide +kernel
theorem dX5_init_84 : decode cX5_init 84 = .ok (.newarray .int, 2) := by decide +kernel
theorem dX5_init_86 : decode cX5_init 86 = .ok (.putfield 44, 3) := by decide +kernel
theorem dX5_init_89 : decode cX5_init 89 = .ok (.aload_n 0, 1) := by decide +kernel
theorem dX5_init_90 : decode cX5_init 90 = .ok (.bipush 40, 2) := by decide +kernel
theorem dX5_init_92 : decode cX5_init 92 = .ok (.newarray .int, 2) := by decide +kernel
theorem dX5_init_94 : decode cX5_init 94 = .ok (.putfield 47, 3) := by decide +kernel
theorem dX5_init_97 : decode cX5_init 97 = .ok (.aload_n 0, 1) := by decide +kernel
theorem dX5_init_98 : decode cX5_init 98 = .ok (.iconst (-1), 1) := by decide +kernel
theorem dX5_init_99 : decode cX5_init 99 = .ok (.putfield 50, 3) := by decide +kernel
theorem dX5_init_102 : decode cX5_init 102 = .ok (.aload_n 0, 1) := by decide +kernel
theorem dX5_init_103 : decode cX5_init 103 = .ok (.iconst 4, 1) := by decide +kernel
theorem dX5_init_104 : decode cX5_init 104 = .ok (.newarray .boolean, 2) := by decide +kernel
theorem dX5_init_106 : decode cX5_init 106 = .ok (.putfield 53, 3) := by decide +kernel
theorem dX5_init_109 : decode cX5_init 109 = .ok (.aload_n 0, 1) := by decide +kernel
theorem dX5_init_110 : decode cX5_init 110 = .ok (.iconst 4, 1) := by decide +kernel
theorem dX5_init_111 : decode cX5_init 111 = .ok (.newarray .int, 2) := by decide +kernel
theorem dX5_init_113 : decode cX5_init 113 = .ok (.putfield 57, 3) := by decide +kernel
theorem dX5_init_116 : decode cX5_init 116 = .ok (.aload_n 0, 1) := by decide +kernel
theorem dX5_init_117 : decode cX5_init 117 = .ok (.iconst 4, 1) := by decide +kernel
theorem dX5_init_118 : decode cX5_init 118 = .ok (.newarray .int, 2) := by decide +kernel
theorem dX5_init_120 : decode cX5_init 120 = .ok (.putfield 60, 3) := by decide +kernel
theorem dX5_init_123 : decode cX5_init 123 = .ok (.aload_n 0, 1) := by decide +kernel
theorem dX5_init_124 : decode cX5_init 124 = .ok (.sipush 160, 3) := by decide +kernel
theorem dX5_init_127 : decode cX5_init 127 = .ok (.newarray .int, 2) := by decide +kernel
theorem dX5_init_129 : decode cX5_init 129 = .ok (.putfield 63, 3) := by decide +kernel
theorem dX5_init_132 : decode cX5_init 132 = .ok (.aload_n 0, 1) := by decide +kernel
theorem dX5_init_133 : decode cX5_init 133 = .ok (.iconst 0, 1) := by decide +kernel
theorem dX5_init_134 : decode cX5_init 134 = .ok (.bipush 99, 2) := by decide +kernel
theorem dX5_init_136 : decode cX5_init 136 = .ok (.bipush 97, 2) := by decide +kernel
theorem dX5_init_138 : decode cX5_init 138 = .ok (.bipush 114, 2) := by decide +kernel
theorem dX5_init_140 : decode cX5_init 140 = .ok (.bipush 114, 2) := by decide +kernel
theorem dX5_init_142 : decode cX5_init 142 = .ok (.bipush 105, 2) := by decide +kernel
theorem dX5_init_144 : decode cX5_init 144 = .ok (.bipush 101, 2) := by decide +kernel
theorem dX5_init_146 : decode cX5_init 146 = .ok (.bipush 115, 2) := by decide +kernel
theorem dX5_init_148 : decode cX5_init 148 = .ok (.bipush 32, 2) := by decide +kernel
theorem dX5_init_150 : decode cX5_init 150 = .ok (.invokevirtual 66, 3) := by decide +kernel
theorem dX5_init_153 : decode cX5_init 153 = .ok (.aload_n 0, 1) := by decide +kernel
theorem dX5_init_154 : decode cX5_init 154 = .ok (.bipush 8, 2) := by decide +kernel
theorem dX5_init_156 : decode cX5_init 156 = .ok (.bipush 49, 2) := by decide +kernel
theorem dX5_init_158 : decode cX5_init 158 = .ok (.bipush 32, 2) := by decide +kernel
theorem dX5_init_160 : decode cX5_init 160 = .ok (.bipush 59, 2) := by decide +kernel
theorem dX5_init_162 : decode cX5_init 162 = .ok (.bipush 32, 2) := by decide +kernel
theorem dX5_init_164 : decode cX5_init 164 = .ok (.bipush 115, 2) := by decide +kernel
theorem dX5_init_166 : decode cX5_init 166 = .ok (.bipush 111, 2) := by decide +kernel
theorem dX5_init_168 : decode cX5_init 168 = .ok (.bipush 102, 2) := by decide +kernel
theorem dX5_init_170 : decode cX5_init 170 = .ok (.bipush 116, 2) := by decide +kernel
theorem dX5_init_172 : decode cX5_init 172 = .ok (.invokevirtual 66, 3) := by decide +kernel
theorem dX5_init_175 : decode cX5_init 175 = .ok (.aload_n 0, 1) := by decide +kernel
theorem dX5_init_176 : decode cX5_init 176 = .ok (.bipush 16, 2) := by decide +kernel
theorem dX5_init_178 : decode cX5_init 178 = .ok (.bipush 101, 2) := by decide +kernel
theorem dX5_init_180 : decode cX5_init 180 = .ok (.bipush 110, 2) := by decide +kernel
theorem dX5_init_182 : decode cX5_init 182 = .ok (.bipush 115, 2) := by decide +kernel
theorem dX5_init_184 : decode cX5_init 184 = .ok (.bipush 32, 2) := by decide +kernel
theorem dX5_init_186 : decode cX5_init 186 = .ok (.bipush 53, 2) := by decide +kernel
theorem dX5_init_188 : decode cX5_init 188 = .ok (.bipush 32, 2) := by decide +kernel
theorem dX5_init_190 : decode cX5_init 190 = .ok (.bipush 59, 2) := by decide +kernel
theorem dX5_init_192 : decode cX5_init 192 = .ok (.bipush 32, 2) := by decide +kernel
theorem dX5_init_194 : decode cX5_init 194 = .ok (.invokevirtual 66, 3) := by decide +kernel
theorem dX5_init_197 : decode cX5_init 197 = .ok (.aload_n 0, 1) := by decide +kernel
theorem dX5_init_198 : decode cX5_init 198 = .ok (.bipush 24, 2) := by decide +kernel
theorem dX5_init_200 : decode cX5_init 200 = .ok (.bipush 119, 2) := by decide +kernel
theorem dX5_init_202 : decode cX5_init 202 = .ok (.bipush 114, 2) := by decide +kernel
theorem dX5_init_204 : decode cX5_init 204 = .ok (.bipush 105, 2) := by decide +kernel
theorem dX5_init_206 : decode cX5_init 206 = .ok (.bipush 116, 2) := by decide +kernel
theorem dX5_init_208 : decode cX5_init 208 = .ok (.bipush 101, 2) := by decide +kernel
theorem dX5_init_210 : decode cX5_init 210 = .ok (.bipush 115, 2) := by decide +kernel
theorem dX5_init_212 : decode cX5_init 212 = .ok (.bipush 32, 2) := by decide +kernel
theorem dX5_init_214 : decode cX5_init 214 = .ok (.bipush 52, 2) := by decide +kernel
theorem dX5_init_216 : decode cX5_init 216 = .ok (.invokevirtual 66, 3) := by decide +kernel
theorem dX5_init_219 : decode cX5_init 219 = .ok (.aload_n 0, 1) := by decide +kernel
theorem dX5_init_220 : decode cX5_init 220 = .ok (.bipush 32, 2) := by decide +kernel
theorem dX5_init_222 : decode cX5_init 222 = .ok (.bipush 48, 2) := by decide +kernel
theorem dX5_init_224 : decode cX5_init 224 = .ok (.bipush 32, 2) := by decide +kernel
theorem dX5_init_226 : decode cX5_init 226 = .ok (.bipush 59, 2) := by decide +kernel
theorem dX5_init_228 : decode cX5_init 228 = .ok (.bipush 32, 2) := by decide +kernel
theorem dX5_init_230 : decode cX5_init 230 = .ok (.bipush 32, 2) := by decide +kernel
theorem dX5_init_232 : decode cX5_init 232 = .ok (.bipush 32, 2) := by decide +kernel
theorem dX5_init_234 : decode cX5_init 234 = .ok (.bipush 32, 2) := by decide +kernel
theorem dX5_init_236 : decode cX5_init 236 = .ok (.bipush 32, 2) := by decide +kernel
theorem dX5_init_238 : decode cX5_init 238 = .ok (.invokevirtual 66, 3) := by decide +kernel
theorem dX5_init_241 : decode cX5_init 241 = .ok (.aload_n 0, 1) := by decide +kernel
theorem dX5_init_242 : decode cX5_init 242 = .ok (.getfield 17, 3) := by decide +kernel
theorem dX5_init_245 : decode cX5_init 245 = .ok (.iconst 0, 1) := by decide +kernel
theorem dX5_init_246 : decode cX5_init 246 = .ok (.bipush 40, 2) := by decide +kernel
theorem dX5_init_248 : decode cX5_init 248 = .ok (.iastore, 1) := by decide +kernel
theorem dX5_init_249 : decode cX5_init 249 = .ok (.aload_n 0, 1) := by decide +kernel
theorem dX5_init_250 : decode cX5_init 250 = .ok (.iconst 1, 1) := by decide +kernel
theorem dX5_init_251 : decode cX5_init 251 = .ok (.putfield 70, 3) := by decide +kernel
theorem dX5_init_254 : decode cX5_init 254 = .ok (.return_, 1) := by decide +kernel
theorem dX5_spell_0 : decode cX5_spell 0 = .ok (.aload_n 0, 1) := by decide +kernel
theorem dX5_spell_1 : decode cX5_spell 1 = .ok (.getfield 13, 3) := by decide +kernel
theorem dX5_spell_4 : decode cX5_spell 4 = .ok (.iload_n 1, 1) := by decide +kernel
theorem dX5_spell_5 : decode cX5_spell 5 = .ok (.iload_n 2, 1) := by decide +kernel
theorem dX5_spell_6 : decode cX5_spell 6 = .ok (.iastore, 1) := by decide +kernel
theorem dX5_spell_7 : decode cX5_spell 7 = .ok (.aload_n 0, 1) := by decide +kernel
theorem dX5_spell_8 : decode cX5_spell 8 = .ok (.getfield 13, 3) := by decide +kernel
theorem dX5_spell_11 : decode cX5_spell 11 = .ok (.iload_n 1, 1) := by decide +kernel
theorem dX5_spell_12 : decode cX5_spell 12 = .ok (.iconst 1, 1) := by decide +kernel
theorem dX5_spell_13 : decode cX5_spell 13 = .ok (.iadd, 1) := by decide +kernel
theorem dX5_spell_14 : decode cX5_spell 14 = .ok (.iload_n 3, 1) := by decide +kernel
theorem dX5_spell_15 : decode cX5_spell 15 = .ok (.iastore, 1) := by decide +kernel
theorem dX5_spell_16 : decode cX5_spell 16 = .ok (.aload_n 0, 1) := by decide +kernel
theorem dX5_spell_17 : decode cX5_spell 17 = .ok (.getfield 13, 3) := by decide +kernel
theorem dX5_spell_20 : decode cX5_spell 20 = .ok (.iload_n 1, 1) := by decide +kernel
theorem dX5_spell_21 : decode cX5_spell 21 = .ok (.iconst 2, 1) := by decide +kernel
theorem dX5_spell_22 : decode cX5_spell 22 = .ok (.iadd, 1) := by decide +kernel
theorem dX5_spell_23 : decode cX5_spell 23 = .ok (.iload 4, 2) := by decide +kernel
theorem dX5_spell_25 : decode cX5_spell 25 = .ok (.iastore, 1) := by decide +kernel
theorem dX5_spell_26 : decode cX5_spell 26 = .ok (.aload_n 0, 1) := by decide +kernel
theorem dX5_spell_27 : decode cX5_spell 27 = .ok (.getfield 13, 3) := by decide +kernel
theorem dX5_spell_30 : decode cX5_spell 30 = .ok (.iload_n 1, 1) := by decide +kernel
theorem dX5_spell_31 : decode cX5_spell 31 = .ok (.iconst 3, 1) := by decide +kernel
theorem dX5_spell_32 : decode cX5_spell 32 = .ok (.iadd, 1) := by decide +kernel
theorem dX5_spell_33 : decode cX5_spell 33 = .ok (.iload 5, 2) := by decide +kernel
theorem dX5_spell_35 : decode cX5_spell 35 = .ok (.iastore, 1) := by decide +kernel
theorem dX5_spell_36 : decode cX5_spell 36 = .ok (.aload_n 0, 1) := by decide +kernel
theorem dX5_spell_37 : decode cX5_spell 37 = .ok (.getfield 13, 3) := by decide +kernel
theorem dX5_spell_40 : decode cX5_spell 40 = .ok (.iload_n 1, 1) := by decide +kernel
theorem dX5_spell_41 : decode cX5_spell 41 = .ok (.iconst 4, 1) := by decide +kernel
theorem dX5_spell_42 : decode cX5_spell 42 = .ok (.iadd, 1) := by decide +kernel
theorem dX5_spell_43 : decode cX5_spell 43 = .ok (.iload 6, 2) := by decide +kernel
theorem dX5_spell_45 : decode cX5_spell 45 = .ok (.iastore, 1) := by decide +kernel
theorem dX5_spell_46 : decode cX5_spell 46 = .ok (.aload_n 0, 1) := by decide +kernel
theorem dX5_spell_47 : decode cX5_spell 47 = .ok (.getfield 13, 3) := by decide +kernel
theorem dX5_spell_50 : decode cX5_spell 50 = .ok (.iload_n 1, 1) := by decide +kernel
theorem dX5_spell_51 : decode cX5_spell 51 = .ok (.iconst 5, 1) := by decide +kernel
theorem dX5_spell_52 : decode cX5_spell 52 = .ok (.iadd, 1) := by decide +kernel
theorem dX5_spell_53 : decode cX5_spell 53 = .ok (.iload 7, 2) := by decide +kernel
theorem dX5_spell_55 : decode cX5_spell 55 = .ok (.iastore, 1) := by decide +kernel
theorem dX5_spell_56 : decode cX5_spell 56 = .ok (.aload_n 0, 1) := by decide +kernel
theorem dX5_spell_57 : decode cX5_spell 57 = .ok (.getfield 13, 3) := by decide +kernel
theorem dX5_spell_60 : decode cX5_spell 60 = .ok (.iload_n 1, 1) := by decide +kernel
theorem dX5_spell_61 : decode cX5_spell 61 = .ok (.bipush 6, 2) := by decide +kernel
theorem dX5_spell_63 : decode cX5_spell 63 = .ok (.iadd, 1) := by decide +kernel
theorem dX5_spell_64 : decode cX5_spell 64 = .ok (.iload 8, 2) := by decide +kernel
theorem dX5_spell_66 : decode cX5_spell 66 = .ok (.iastore, 1) := by decide +kernel
theorem dX5_spell_67 : decode cX5_spell 67 = .ok (.aload_n 0, 1) := by decide +kernel
theorem dX5_spell_68 : decode cX5_spell 68 = .ok (.getfield 13, 3) := by decide +kernel
theorem dX5_spell_71 : decode cX5_spell 71 = .ok (.iload_n 1, 1) := by decide +kernel
theorem dX5_spell_72 : decode cX5_spell 72 = .ok (.bipush 7, 2) := by decide +kernel
theorem dX5_spell_74 : decode cX5_spell 74 = .ok (.iadd, 1) := by decide +kernel
theorem dX5_spell_75 : decode cX5_spell 75 = .ok (.iload 9, 2) := by decide +kernel
theorem dX5_spell_77 : decode cX5_spell 77 = .ok (.iastore, 1) := by decide +kernel
theorem dX5_spell_78 : decode cX5_spell 78 = .ok (.return_, 1) := by decide +kernel
theorem dX5_isOne_0 : decode cX5_isOne 0 = .ok (.iload_n 1, 1) := by decide +kernel
theorem dX5_isOne_1 : decode cX5_isOne 1 = .ok (.i2l, 1) := by decide +kernel
theorem dX5_isOne_2 : decode cX5_isOne 2 = .ok (.lconst 0, 1) := by decide +kernel
theorem dX5_isOne_3 : decode cX5_isOne 3 = .ok (.aload_n 0, 1) := by decide +kernel
theorem dX5_isOne_4 : decode cX5_isOne 4 = .ok (.getfield 73, 3) := by decide +kernel
theorem dX5_isOne_7 : decode cX5_isOne 7 = .ok (.iconst 1, 1) := by decide +kernel
theorem dX5_isOne_8 : decode cX5_isOne 8 = .ok (.isub, 1) := by decide +kernel
theorem dX5_isOne_9 : decode cX5_isOne 9 = .ok (.i2l, 1) := by decide +kernel
theorem dX5_isOne_10 : decode cX5_isOne 10 = .ok (.invokestatic 76, 3) := by decide +kernel
theorem dX5_isOne_13 : decode cX5_isOne 13 = .ok (.ireturn, 1) := by decide +kernel
theorem dX5_isLetter_0 : decode cX5_isLetter 0 = .ok (.iload_n 1, 1) := by decide +kernel
theorem dX5_isLetter_1 : decode cX5_isLetter 1 = .ok (.i2l, 1) := by decide +kernel
theorem dX5_isLetter_2 : decode cX5_isLetter 2 = .ok (.lconst 0, 1) := by decide +kernel
theorem dX5_isLetter_3 : decode cX5_isLetter 3 = .ok (.aload_n 0, 1) := by decide +kernel
theorem dX5_isLetter_4 : decode cX5_isLetter 4 = .ok (.getfield 80, 3) := by decide +kernel
theorem dX5_isLetter_7 : decode cX5_isLetter 7 = .ok (.iconst 1, 1) := by decide +kernel
theorem dX5_isLetter_8 : decode cX5_isLetter 8 = .ok (.isub, 1) := by decide +kernel
theorem dX5_isLetter_9 : decode cX5_isLetter 9 = .ok (.i2l, 1) := by decide +kernel
theorem dX5_isLetter_10 : decode cX5_isLetter 10 = .ok (.invokestatic 76, 3) := by decide +kernel
theorem dX5_isLetter_13 : decode cX5_isLetter 13 = .ok (.ireturn, 1) := by decide +kernel
theorem dX5_areTwo_0 : decode cX5_areTwo 0 = .ok (.aload_n 0, 1) := by decide +kernel
theorem dX5_areTwo_1 : decode cX5_areTwo 1 = .ok (.iload_n 1, 1) := by decide +kernel
theorem dX5_areTwo_2 : decode cX5_areTwo 2 = .ok (.invokevirtual 83, 3) := by decide +kernel
theorem dX5_areTwo_5 : decode cX5_areTwo 5 = .ok (.ifCond .eq 20, 3) := by decide +kernel
theorem dX5_areTwo_8 : decode cX5_areTwo 8 = .ok (.aload_n 0, 1) := by decide +kernel
theorem dX5_areTwo_9 : decode cX5_areTwo 9 = .ok (.iload_n 2, 1) := by decide +kernel
theorem dX5_areTwo_10 : decode cX5_areTwo 10 = .ok (.invokevirtual 83, 3) := by decide +kernel
theorem dX5_areTwo_13 : decode cX5_areTwo 13 = .ok (.ifCond .eq 12, 3) := by decide +kernel
theorem dX5_areTwo_16 : decode cX5_areTwo 16 = .ok (.iload_n 1, 1) := by decide +kernel
theorem dX5_areTwo_17 : decode cX5_areTwo 17 = .ok (.iload_n 2, 1) := by decide +kernel
theorem dX5_areTwo_18 : decode cX5_areTwo 18 = .ok (.if_icmp .eq 7, 3) := by decide +kernel
theorem dX5_areTwo_21 : decode cX5_areTwo 21 = .ok (.iconst 1, 1) := by decide +kernel
theorem dX5_areTwo_22 : decode cX5_areTwo 22 = .ok (.goto 4, 3) := by decide +kernel
theorem dX5_areTwo_25 : decode cX5_areTwo 25 = .ok (.iconst 0, 1) := by decide +kernel
theorem dX5_areTwo_26 : decode cX5_areTwo 26 = .ok (.ireturn, 1) := by decide +kernel
theorem dX5_isOf_0 : decode cX5_isOf 0 = .ok (.iload_n 1, 1) := by decide +kernel
theorem dX5_isOf_1 : decode cX5_isOf 1 = .ok (.iconst 2, 1) := by decide +kernel
theorem dX5_isOf_2 : decode cX5_isOf 2 = .ok (.if_icmp .lt 33, 3) := by decide +kernel
theorem dX5_isOf_5 : decode cX5_isOf 5 = .ok (.iload_n 1, 1) := by decide +kernel
theorem dX5_isOf_6 : decode cX5_isOf 6 = .ok (.iconst 3, 1) := by decide +kernel
theorem dX5_isOf_7 : decode cX5_isOf 7 = .ok (.if_icmp .eq 9, 3) := by decide +kernel
theorem dX5_isOf_10 : decode cX5_isOf 10 = .ok (.iload_n 1, 1) := by decide +kernel
theorem dX5_isOf_11 : decode cX5_isOf 11 = .ok (.bipush 6, 2) := by decide +kernel
theorem dX5_isOf_13 : decode cX5_isOf 13 = .ok (.if_icmp .le 14, 3) := by decide +kernel
theorem dX5_isOf_16 : decode cX5_isOf 16 = .ok (.aload_n 0, 1) := by decide +kernel
theorem dX5_isOf_17 : decode cX5_isOf 17 = .ok (.iload_n 2, 1) := by decide +kernel
theorem dX5_isOf_18 : decode cX5_isOf 18 = .ok (.invokevirtual 87, 3) := by decide +kernel
theorem dX5_isOf_21 : decode cX5_isOf 21 = .ok (.ifCond .eq 18, 3) := by decide +kernel
theorem dX5_isOf_24 : decode cX5_isOf 24 = .ok (.goto 11, 3) := by decide +kernel
theorem dX5_isOf_27 : decode cX5_isOf 27 = .ok (.aload_n 0, 1) := by decide +kernel
theorem dX5_isOf_28 : decode cX5_isOf 28 = .ok (.iload_n 2, 1) := by decide +kernel
theorem dX5_isOf_29 : decode cX5_isOf 29 = .ok (.invokevirtual 83, 3) := by decide +kernel
theorem dX5_isOf_32 : decode cX5_isOf 32 = .ok (.ifCond .eq 7, 3) := by decide +kernel
theorem dX5_isOf_35 : decode cX5_isOf 35 = .ok (.iconst 1, 1) := by decide +kernel
theorem dX5_isOf_36 : decode cX5_isOf 36 = .ok (.goto 4, 3) := by decide +kernel
theorem dX5_isOf_39 : decode cX5_isOf 39 = .ok (.iconst 0, 1) := by decide +kernel
theorem dX5_isOf_40 : decode cX5_isOf 40 = .ok (.ireturn, 1) := by decide +kernel
theorem dX5_mostOf_0 : decode cX5_mostOf 0 = .ok (.iload_n 0, 1) := by decide +kernel
theorem dX5_mostOf_1 : decode cX5_mostOf 1 = .ok (.ifCond .ne 9, 3) := by decide +kernel
theorem dX5_mostOf_4 : decode cX5_mostOf 4 = .ok (.sipush 999, 3) := by decide +kernel
theorem dX5_mostOf_7 : decode cX5_mostOf 7 = .ok (.goto 25, 3) := by decide +kernel
theorem dX5_mostOf_10 : decode cX5_mostOf 10 = .ok (.iload_n 0, 1) := by decide +kernel
theorem dX5_mostOf_11 : decode cX5_mostOf 11 = .ok (.iconst 1, 1) := by decide +kernel
theorem dX5_mostOf_12 : decode cX5_mostOf 12 = .ok (.if_icmp .ne 8, 3) := by decide +kernel
theorem dX5_mostOf_15 : decode cX5_mostOf 15 = .ok (.bipush 7, 2) := by decide +kernel
theorem dX5_mostOf_17 : decode cX5_mostOf 17 = .ok (.goto 15, 3) := by decide +kernel
theorem dX5_mostOf_20 : decode cX5_mostOf 20 = .ok (.iload_n 0, 1) := by decide +kernel
theorem dX5_mostOf_21 : decode cX5_mostOf 21 = .ok (.iconst 2, 1) := by decide +kernel
theorem dX5_mostOf_22 : decode cX5_mostOf 22 = .ok (.if_icmp .ne 8, 3) := by decide +kernel
theorem dX5_mostOf_25 : decode cX5_mostOf 25 = .ok (.bipush 9, 2) := by decide +kernel
theorem dX5_mostOf_27 : decode cX5_mostOf 27 = .ok (.goto 5, 3) := by decide +kernel
theorem dX5_mostOf_30 : decode cX5_mostOf 30 = .ok (.bipush 99, 2) := by decide +kernel
theorem dX5_mostOf_32 : decode cX5_mostOf 32 = .ok (.ireturn, 1) := by decide +kernel
theorem dX5_set_0 : decode cX5_set 0 = .ok (.iload_n 1, 1) := by decide +kernel
theorem dX5_set_1 : decode cX5_set 1 = .ok (.i2l, 1) := by decide +kernel
theorem dX5_set_2 : decode cX5_set 2 = .ok (.lconst 0, 1) := by decide +kernel
theorem dX5_set_3 : decode cX5_set 3 = .ok (.ldc2_w 90, 3) := by decide +kernel
theorem dX5_set_6 : decode cX5_set 6 = .ok (.invokestatic 76, 3) := by decide +kernel
theorem dX5_set_9 : decode cX5_set 9 = .ok (.ifCond .eq 26, 3) := by decide +kernel
theorem dX5_set_12 : decode cX5_set 12 = .ok (.aload_n 0, 1) := by decide +kernel
theorem dX5_set_13 : decode cX5_set 13 = .ok (.iload_n 1, 1) := by decide +kernel
theorem dX5_set_14 : decode cX5_set 14 = .ok (.iload_n 2, 1) := by decide +kernel
theorem dX5_set_15 : decode cX5_set 15 = .ok (.invokevirtual 92, 3) := by decide +kernel
theorem dX5_set_18 : decode cX5_set 18 = .ok (.ifCond .eq 17, 3) := by decide +kernel
theorem dX5_set_21 : decode cX5_set 21 = .ok (.iload_n 3, 1) := by decide +kernel
theorem dX5_set_22 : decode cX5_set 22 = .ok (.i2l, 1) := by decide +kernel
theorem dX5_set_23 : decode cX5_set 23 = .ok (.lconst 0, 1) := by decide +kernel
theorem dX5_set_24 : decode cX5_set 24 = .ok (.iload_n 1, 1) := by decide +kernel
theorem dX5_set_25 : decode cX5_set 25 = .ok (.invokestatic 96, 3) := by decide +kernel
theorem dX5_set_28 : decode cX5_set 28 = .ok (.i2l, 1) := by decide +kernel
theorem dX5_set_29 : decode cX5_set 29 = .ok (.invokestatic 76, 3) := by decide +kernel
theorem dX5_set_32 : decode cX5_set 32 = .ok (.ifCond .ne 6, 3) := by decide +kernel
theorem dX5_set_35 : decode cX5_set 35 = .ok (.bipush (-2), 2) := by decide +kernel
theorem dX5_set_37 : decode cX5_set 37 = .ok (.ireturn, 1) := by decide +kernel
theorem dX5_set_38 : decode cX5_set 38 = .ok (.aload_n 0, 1) := by decide +kernel
theorem dX5_set_39 : decode cX5_set 39 = .ok (.iload_n 2, 1) := by decide +kernel
theorem dX5_set_40 : decode cX5_set 40 = .ok (.iload_n 1, 1) := by decide +kernel
theorem dX5_set_41 : decode cX5_set 41 = .ok (.invokevirtual 100, 3) := by decide +kernel
theorem dX5_set_44 : decode cX5_set 44 = .ok (.istore 4, 2) := by decide +kernel
theorem dX5_set_46 : decode cX5_set 46 = .ok (.aload_n 0, 1) := by decide +kernel
theorem dX5_set_47 : decode cX5_set 47 = .ok (.iload_n 1, 1) := by decide +kernel
theorem dX5_set_48 : decode cX5_set 48 = .ok (.iload_n 2, 1) := by decide +kernel
theorem dX5_set_49 : decode cX5_set 49 = .ok (.iload_n 3, 1) := by decide +kernel
theorem dX5_set_50 : decode cX5_set 50 = .ok (.invokevirtual 104, 3) := by decide +kernel
theorem dX5_set_53 : decode cX5_set 53 = .ok (.iload 4, 2) := by decide +kernel
theorem dX5_set_55 : decode cX5_set 55 = .ok (.ireturn, 1) := by decide +kernel
theorem dX5_lays_0 : decode cX5_lays 0 = .ok (.iload_n 1, 1) := by decide +kernel
theorem dX5_lays_1 : decode cX5_lays 1 = .ok (.iconst 2, 1) := by decide +kernel
theorem dX5_lays_2 : decode cX5_lays 2 = .ok (.if_icmp .ge 39, 3) := by decide +kernel
theorem dX5_lays_5 : decode cX5_lays 5 = .ok (.aload_n 0, 1) := by decide +kernel
theorem dX5_lays_6 : decode cX5_lays 6 = .ok (.iload_n 1, 1) := by decide +kernel
theorem dX5_lays_7 : decode cX5_lays 7 = .ok (.ifCond .ne 7, 3) := by decide +kernel
theorem dX5_lays_10 : decode cX5_lays 10 = .ok (.iload_n 3, 1) := by decide +kernel
theorem dX5_lays_11 : decode cX5_lays 11 = .ok (.goto 7, 3) := by decide +kernel
theorem dX5_lays_14 : decode cX5_lays 14 = .ok (.aload_n 0, 1) := by decide +kernel
theorem dX5_lays_15 : decode cX5_lays 15 = .ok (.getfield 108, 3) := by decide +kernel
theorem dX5_lays_18 : decode cX5_lays 18 = .ok (.putfield 108, 3) := by decide +kernel
theorem dX5_lays_21 : decode cX5_lays 21 = .ok (.aload_n 0, 1) := by decide +kernel
theorem dX5_lays_22 : decode cX5_lays 22 = .ok (.iload_n 1, 1) := by decide +kernel
theorem dX5_lays_23 : decode cX5_lays 23 = .ok (.iconst 1, 1) := by decide +kernel
theorem dX5_lays_24 : decode cX5_lays 24 = .ok (.if_icmp .ne 7, 3) := by decide +kernel
theorem dX5_lays_27 : decode cX5_lays 27 = .ok (.iload_n 3, 1) := by decide +kernel
theorem dX5_lays_28 : decode cX5_lays 28 = .ok (.goto 7, 3) := by decide +kernel
theorem dX5_lays_31 : decode cX5_lays 31 = .ok (.aload_n 0, 1) := by decide +kernel
theorem dX5_lays_32 : decode cX5_lays 32 = .ok (.getfield 23, 3) := by decide +kernel
theorem dX5_lays_35 : decode cX5_lays 35 = .ok (.putfield 23, 3) := by decide +kernel
theorem dX5_lays_38 : decode cX5_lays 38 = .ok (.goto 61, 3) := by decide +kernel
theorem dX5_lays_41 : decode cX5_lays 41 = .ok (.iload_n 1, 1) := by decide +kernel
theorem dX5_lays_42 : decode cX5_lays 42 = .ok (.iconst 2, 1) := by decide +kernel
theorem dX5_lays_43 : decode cX5_lays 43 = .ok (.if_icmp .ne 15, 3) := by decide +kernel
theorem dX5_lays_46 : decode cX5_lays 46 = .ok (.aload_n 0, 1) := by decide +kernel
theorem dX5_lays_47 : decode cX5_lays 47 = .ok (.getfield 26, 3) := by decide +kernel
theorem dX5_lays_50 : decode cX5_lays 50 = .ok (.iconst 3, 1) := by decide +kernel
theorem dX5_lays_51 : decode cX5_lays 51 = .ok (.iload_n 2, 1) := by decide +kernel
theorem dX5_lays_52 : decode cX5_lays 52 = .ok (.imul, 1) := by decide +kernel
theorem dX5_lays_53 : decode cX5_lays 53 = .ok (.iload_n 3, 1) := by decide +kernel
theorem dX5_lays_54 : decode cX5_lays 54 = .ok (.iastore, 1) := by decide +kernel
theorem dX5_lays_55 : decode cX5_lays 55 = .ok (.goto 44, 3) := by decide +kernel
theorem dX5_lays_58 : decode cX5_lays 58 = .ok (.iload_n 1, 1) := by decide +kernel
theorem dX5_lays_59 : decode cX5_lays 59 = .ok (.iconst 3, 1) := by decide +kernel
theorem dX5_lays_60 : decode cX5_lays 60 = .ok (.if_icmp .ne 15, 3) := by decide +kernel
theorem dX5_lays_63 : decode cX5_lays 63 = .ok (.aload_n 0, 1) := by decide +kernel
theorem dX5_lays_64 : decode cX5_lays 64 = .ok (.getfield 29, 3) := by decide +kernel
theorem dX5_lays_67 : decode cX5_lays 67 = .ok (.iconst 5, 1) := by decide +kernel
theorem dX5_lays_68 : decode cX5_lays 68 = .ok (.iload_n 2, 1) := by decide +kernel
theorem dX5_lays_69 : decode cX5_lays 69 = .ok (.imul, 1) := by decide +kernel
theorem dX5_lays_70 : decode cX5_lays 70 = .ok (.iload_n 3, 1) := by decide +kernel
theorem dX5_lays_71 : decode cX5_lays 71 = .ok (.iastore, 1) := by decide +kernel
theorem dX5_lays_72 : decode cX5_lays 72 = .ok (.goto 27, 3) := by decide +kernel
theorem dX5_lays_75 : decode cX5_lays 75 = .ok (.iload_n 1, 1) := by decide +kernel
theorem dX5_lays_76 : decode cX5_lays 76 = .ok (.iconst 4, 1) := by decide +kernel
theorem dX5_lays_77 : decode cX5_lays 77 = .ok (.if_icmp .ne 17, 3) := by decide +kernel
theorem dX5_lays_80 : decode cX5_lays 80 = .ok (.aload_n 0, 1) := by decide +kernel
theorem dX5_lays_81 : decode cX5_lays 81 = .ok (.getfield 26, 3) := by decide +kernel
theorem dX5_lays_84 : decode cX5_lays 84 = .ok (.iconst 3, 1) := by decide +kernel
theorem dX5_lays_85 : decode cX5_lays 85 = .ok (.iload_n 2, 1) := by decide +kernel
theorem dX5_lays_86 : decode cX5_lays 86 = .ok (.imul, 1) := by decide +kernel
theorem dX5_lays_87 : decode cX5_lays 87 = .ok (.iconst 1, 1) := by decide +kernel
theorem dX5_lays_88 : decode cX5_lays 88 = .ok (.iadd, 1) := by decide +kernel
theorem dX5_lays_89 : decode cX5_lays 89 = .ok (.iload_n 3, 1) := by decide +kernel
theorem dX5_lays_90 : decode cX5_lays 90 = .ok (.iastore, 1) := by decide +kernel
theorem dX5_lays_91 : decode cX5_lays 91 = .ok (.goto 8, 3) := by decide +kernel
theorem dX5_lays_94 : decode cX5_lays 94 = .ok (.aload_n 0, 1) := by decide +kernel
theorem dX5_lays_95 : decode cX5_lays 95 = .ok (.iload_n 3, 1) := by decide +kernel
theorem dX5_lays_96 : decode cX5_lays 96 = .ok (.putfield 111, 3) := by decide +kernel
theorem dX5_lays_99 : decode cX5_lays 99 = .ok (.return_, 1) := by decide +kernel
theorem dX5_whoIn_0 : decode cX5_whoIn 0 = .ok (.iconst (-1), 1) := by decide +kernel
theorem dX5_whoIn_1 : decode cX5_whoIn 1 = .ok (.istore_n 2, 1) := by decide +kernel
theorem dX5_whoIn_2 : decode cX5_whoIn 2 = .ok (.iconst 0, 1) := by decide +kernel
theorem dX5_whoIn_3 : decode cX5_whoIn 3 = .ok (.istore_n 3, 1) := by decide +kernel
theorem dX5_whoIn_4 : decode cX5_whoIn 4 = .ok (.iload_n 3, 1) := by decide +kernel
theorem dX5_whoIn_5 : decode cX5_whoIn 5 = .ok (.aload_n 0, 1) := by decide +kernel
theorem dX5_whoIn_6 : decode cX5_whoIn 6 = .ok (.getfield 73, 3) := by decide +kernel
theorem dX5_whoIn_9 : decode cX5_whoIn 9 = .ok (.if_icmp .ge 29, 3) := by decide +kernel
theorem dX5_whoIn_12 : decode cX5_whoIn 12 = .ok (.aload_n 0, 1) := by decide +kernel
theorem dX5_whoIn_13 : decode cX5_whoIn 13 = .ok (.getfield 26, 3) := by decide +kernel
theorem dX5_whoIn_16 : decode cX5_whoIn 16 = .ok (.iconst 3, 1) := by decide +kernel
theorem dX5_whoIn_17 : decode cX5_whoIn 17 = .ok (.iload_n 3, 1) := by decide +kernel
theorem dX5_whoIn_18 : decode cX5_whoIn 18 = .ok (.imul, 1) := by decide +kernel
theorem dX5_whoIn_19 : decode cX5_whoIn 19 = .ok (.iconst 2, 1) := by decide +kernel
theorem dX5_whoIn_20 : decode cX5_whoIn 20 = .ok (.iadd, 1) := by decide +kernel
theorem dX5_whoIn_21 : decode cX5_whoIn 21 = .ok (.iaload, 1) := by decide +kernel
theorem dX5_whoIn_22 : decode cX5_whoIn 22 = .ok (.iload_n 1, 1) := by decide +kernel
theorem dX5_whoIn_23 : decode cX5_whoIn 23 = .ok (.if_icmp .ne 7, 3) := by decide +kernel
theorem dX5_whoIn_26 : decode cX5_whoIn 26 = .ok (.iload_n 3, 1) := by decide +kernel
theorem dX5_whoIn_27 : decode cX5_whoIn 27 = .ok (.goto 4, 3) := by decide +kernel
theorem dX5_whoIn_30 : decode cX5_whoIn 30 = .ok (.iload_n 2, 1) := by decide +kernel
theorem dX5_whoIn_31 : decode cX5_whoIn 31 = .ok (.istore_n 2, 1) := by decide +kernel
theorem dX5_whoIn_32 : decode cX5_whoIn 32 = .ok (.iinc 3 1, 3) := by decide +kernel
theorem dX5_whoIn_35 : decode cX5_whoIn 35 = .ok (.goto (-31), 3) := by decide +kernel
theorem dX5_whoIn_38 : decode cX5_whoIn 38 = .ok (.iload_n 2, 1) := by decide +kernel
theorem dX5_whoIn_39 : decode cX5_whoIn 39 = .ok (.ireturn, 1) := by decide +kernel
theorem dX5_person_0 : decode cX5_person 0 = .ok (.iload_n 1, 1) := by decide +kernel
theorem dX5_person_1 : decode cX5_person 1 = .ok (.i2l, 1) := by decide +kernel
theorem dX5_person_2 : decode cX5_person 2 = .ok (.lconst 0, 1) := by decide +kernel
theorem dX5_person_3 : decode cX5_person 3 = .ok (.ldc2_w 114, 3) := by decide +kernel
theorem dX5_person_6 : decode cX5_person 6 = .ok (.invokestatic 76, 3) := by decide +kernel
theorem dX5_person_9 : decode cX5_person 9 = .ok (.ifCond .eq 36, 3) := by decide +kernel
theorem dX5_person_12 : decode cX5_person 12 = .ok (.iload_n 2, 1) := by decide +kernel
theorem dX5_person_13 : decode cX5_person 13 = .ok (.i2l, 1) := by decide +kernel
theorem dX5_person_14 : decode cX5_person 14 = .ok (.lconst 0, 1) := by decide +kernel
theorem dX5_person_15 : decode cX5_person 15 = .ok (.ldc2_w 116, 3) := by decide +kernel
theorem dX5_person_18 : decode cX5_person 18 = .ok (.invokestatic 76, 3) := by decide +kernel
theorem dX5_person_21 : decode cX5_person 21 = .ok (.ifCond .eq 24, 3) := by decide +kernel
theorem dX5_person_24 : decode cX5_person 24 = .ok (.iload_n 3, 1) := by decide +kernel
theorem dX5_person_25 : decode cX5_person 25 = .ok (.i2l, 1) := by decide +kernel
theorem dX5_person_26 : decode cX5_person 26 = .ok (.lconst 0, 1) := by decide +kernel
theorem dX5_person_27 : decode cX5_person 27 = .ok (.ldc2_w 118, 3) := by decide +kernel
theorem dX5_person_30 : decode cX5_person 30 = .ok (.invokestatic 76, 3) := by decide +kernel
theorem dX5_person_33 : decode cX5_person 33 = .ok (.ifCond .eq 12, 3) := by decide +kernel
theorem dX5_person_36 : decode cX5_person 36 = .ok (.aload_n 0, 1) := by decide +kernel
theorem dX5_person_37 : decode cX5_person 37 = .ok (.iload_n 3, 1) := by decide +kernel
theorem dX5_person_38 : decode cX5_person 38 = .ok (.invokevirtual 120, 3) := by decide +kernel
theorem dX5_person_41 : decode cX5_person 41 = .ok (.iconst (-1), 1) := by decide +kernel
theorem dX5_person_42 : decode cX5_person 42 = .ok (.if_icmp .eq 6, 3) := by decide +kernel
theorem dX5_person_45 : decode cX5_person 45 = .ok (.bipush (-2), 2) := by decide +kernel
theorem dX5_person_47 : decode cX5_person 47 = .ok (.ireturn, 1) := by decide +kernel
theorem dX5_person_48 : decode cX5_person 48 = .ok (.aload_n 0, 1) := by decide +kernel
theorem dX5_person_49 : decode cX5_person 49 = .ok (.getfield 73, 3) := by decide +kernel
theorem dX5_person_52 : decode cX5_person 52 = .ok (.iconst 5, 1) := by decide +kernel
theorem dX5_person_53 : decode cX5_person 53 = .ok (.if_icmp .ne 6, 3) := by decide +kernel
theorem dX5_person_56 : decode cX5_person 56 = .ok (.bipush (-4), 2) := by decide +kernel
theorem dX5_person_58 : decode cX5_person 58 = .ok (.ireturn, 1) := by decide +kernel
theorem dX5_person_59 : decode cX5_person 59 = .ok (.aload_n 0, 1) := by decide +kernel
theorem dX5_person_60 : decode cX5_person 60 = .ok (.getfield 26, 3) := by decide +kernel
theorem dX5_person_63 : decode cX5_person 63 = .ok (.iconst 3, 1) := by decide +kernel
theorem dX5_person_64 : decode cX5_person 64 = .ok (.aload_n 0, 1) := by decide +kernel
theorem dX5_person_65 : decode cX5_person 65 = .ok (.getfield 73, 3) := by decide +kernel
theorem dX5_person_68 : decode cX5_person 68 = .ok (.imul, 1) := by decide +kernel
theorem dX5_person_69 : decode cX5_person 69 = .ok (.iload_n 2, 1) := by decide +kernel
theorem dX5_person_70 : decode cX5_person 70 = .ok (.iastore, 1) := by decide +kernel
theorem dX5_person_71 : decode cX5_person 71 = .ok (.aload_n 0, 1) := by decide +kernel
theorem dX5_person_72 : decode cX5_person 72 = .ok (.getfield 26, 3) := by decide +kernel
theorem dX5_person_75 : decode cX5_person 75 = .ok (.iconst 3, 1) := by decide +kernel
theorem dX5_person_76 : decode cX5_person 76 = .ok (.aload_n 0, 1) := by decide +kernel
theorem dX5_person_77 : decode cX5_person 77 = .ok (.getfield 73, 3) := by decide +kernel
theorem dX5_person_80 : decode cX5_person 80 = .ok (.imul, 1) := by decide +kernel
theorem dX5_person_81 : decode cX5_person 81 = .ok (.iconst 1, 1) := by decide +kernel
theorem dX5_person_82 : decode cX5_person 82 = .ok (.iadd, 1) := by decide +kernel
theorem dX5_person_83 : decode cX5_person 83 = .ok (.iload_n 1, 1) := by decide +kernel
theorem dX5_person_84 : decode cX5_person 84 = .ok (.iastore, 1) := by decide +kernel
theorem dX5_person_85 : decode cX5_person 85 = .ok (.aload_n 0, 1) := by decide +kernel
theorem dX5_person_86 : decode cX5_person 86 = .ok (.getfield 26, 3) := by decide +kernel
theorem dX5_person_89 : decode cX5_person 89 = .ok (.iconst 3, 1) := by decide +kernel
theorem dX5_person_90 : decode cX5_person 90 = .ok (.aload_n 0, 1) := by decide +kernel
theorem dX5_person_91 : decode cX5_person 91 = .ok (.getfield 73, 3) := by decide +kernel
theorem dX5_person_94 : decode cX5_person 94 = .ok (.imul, 1) := by decide +kernel
theorem dX5_person_95 : decode cX5_person 95 = .ok (.iconst 2, 1) := by decide +kernel
theorem dX5_person_96 : decode cX5_person 96 = .ok (.iadd, 1) := by decide +kernel
theorem dX5_person_97 : decode cX5_person 97 = .ok (.iload_n 3, 1) := by decide +kernel
theorem dX5_person_98 : decode cX5_person 98 = .ok (.iastore, 1) := by decide +kernel
theorem dX5_person_99 : decode cX5_person 99 = .ok (.aload_n 0, 1) := by decide +kernel
theorem dX5_person_100 : decode cX5_person 100 = .ok (.dup, 1) := by decide +kernel
theorem dX5_person_101 : decode cX5_person 101 = .ok (.getfield 73, 3) := by decide +kernel
theorem dX5_person_104 : decode cX5_person 104 = .ok (.iconst 1, 1) := by decide +kernel
theorem dX5_person_105 : decode cX5_person 105 = .ok (.iadd, 1) := by decide +kernel
theorem dX5_person_106 : decode cX5_person 106 = .ok (.putfield 73, 3) := by decide +kernel
theorem dX5_person_109 : decode cX5_person 109 = .ok (.aload_n 0, 1) := by decide +kernel
theorem dX5_person_110 : decode cX5_person 110 = .ok (.getfield 73, 3) := by decide +kernel
theorem dX5_person_113 : decode cX5_person 113 = .ok (.iconst 1, 1) := by decide +kernel
theorem dX5_person_114 : decode cX5_person 114 = .ok (.isub, 1) := by decide +kernel
theorem dX5_person_115 : decode cX5_person 115 = .ok (.ireturn, 1) := by decide +kernel
theorem dX5_swap_0 : decode cX5_swap 0 = .ok (.aload_n 0, 1) := by decide +kernel
theorem dX5_swap_1 : decode cX5_swap 1 = .ok (.iload_n 1, 1) := by decide +kernel
theorem dX5_swap_2 : decode cX5_swap 2 = .ok (.iload_n 2, 1) := by decide +kernel
theorem dX5_swap_3 : decode cX5_swap 3 = .ok (.invokevirtual 123, 3) := by decide +kernel
theorem dX5_swap_6 : decode cX5_swap 6 = .ok (.ifCond .ne 6, 3) := by decide +kernel
theorem dX5_swap_9 : decode cX5_swap 9 = .ok (.bipush (-2), 2) := by decide +kernel
theorem dX5_swap_11 : decode cX5_swap 11 = .ok (.ireturn, 1) := by decide +kernel
theorem dX5_swap_12 : decode cX5_swap 12 = .ok (.aload_n 0, 1) := by decide +kernel
theorem dX5_swap_13 : decode cX5_swap 13 = .ok (.getfield 26, 3) := by decide +kernel
theorem dX5_swap_16 : decode cX5_swap 16 = .ok (.iconst 3, 1) := by decide +kernel
theorem dX5_swap_17 : decode cX5_swap 17 = .ok (.iload_n 1, 1) := by decide +kernel
theorem dX5_swap_18 : decode cX5_swap 18 = .ok (.imul, 1) := by decide +kernel
theorem dX5_swap_19 : decode cX5_swap 19 = .ok (.iconst 2, 1) := by decide +kernel
theorem dX5_swap_20 : decode cX5_swap 20 = .ok (.iadd, 1) := by decide +kernel
theorem dX5_swap_21 : decode cX5_swap 21 = .ok (.iaload, 1) := by decide +kernel
theorem dX5_swap_22 : decode cX5_swap 22 = .ok (.istore_n 3, 1) := by decide +kernel
theorem dX5_swap_23 : decode cX5_swap 23 = .ok (.aload_n 0, 1) := by decide +kernel
theorem dX5_swap_24 : decode cX5_swap 24 = .ok (.getfield 26, 3) := by decide +kernel
theorem dX5_swap_27 : decode cX5_swap 27 = .ok (.iconst 3, 1) := by decide +kernel
theorem dX5_swap_28 : decode cX5_swap 28 = .ok (.iload_n 1, 1) := by decide +kernel
theorem dX5_swap_29 : decode cX5_swap 29 = .ok (.imul, 1) := by decide +kernel
theorem dX5_swap_30 : decode cX5_swap 30 = .ok (.iconst 2, 1) := by decide +kernel
theorem dX5_swap_31 : decode cX5_swap 31 = .ok (.iadd, 1) := by decide +kernel
theorem dX5_swap_32 : decode cX5_swap 32 = .ok (.aload_n 0, 1) := by decide +kernel
theorem dX5_swap_33 : decode cX5_swap 33 = .ok (.getfield 26, 3) := by decide +kernel
theorem dX5_swap_36 : decode cX5_swap 36 = .ok (.iconst 3, 1) := by decide +kernel
theorem dX5_swap_37 : decode cX5_swap 37 = .ok (.iload_n 2, 1) := by decide +kernel
theorem dX5_swap_38 : decode cX5_swap 38 = .ok (.imul, 1) := by decide +kernel
theorem dX5_swap_39 : decode cX5_swap 39 = .ok (.iconst 2, 1) := by decide +kernel
theorem dX5_swap_40 : decode cX5_swap 40 = .ok (.iadd, 1) := by decide +kernel
theorem dX5_swap_41 : decode cX5_swap 41 = .ok (.iaload, 1) := by decide +kernel
theorem dX5_swap_42 : decode cX5_swap 42 = .ok (.iastore, 1) := by decide +kernel
theorem dX5_swap_43 : decode cX5_swap 43 = .ok (.aload_n 0, 1) := by decide +kernel
theorem dX5_swap_44 : decode cX5_swap 44 = .ok (.getfield 26, 3) := by decide +kernel
theorem dX5_swap_47 : decode cX5_swap 47 = .ok (.iconst 3, 1) := by decide +kernel
theorem dX5_swap_48 : decode cX5_swap 48 = .ok (.iload_n 2, 1) := by decide +kernel
theorem dX5_swap_49 : decode cX5_swap 49 = .ok (.imul, 1) := by decide +kernel
theorem dX5_swap_50 : decode cX5_swap 50 = .ok (.iconst 2, 1) := by decide +kernel
theorem dX5_swap_51 : decode cX5_swap 51 = .ok (.iadd, 1) := by decide +kernel
theorem dX5_swap_52 : decode cX5_swap 52 = .ok (.iload_n 3, 1) := by decide +kernel
theorem dX5_swap_53 : decode cX5_swap 53 = .ok (.iastore, 1) := by decide +kernel
theorem dX5_swap_54 : decode cX5_swap 54 = .ok (.aload_n 0, 1) := by decide +kernel
theorem dX5_swap_55 : decode cX5_swap 55 = .ok (.getfield 26, 3) := by decide +kernel
theorem dX5_swap_58 : decode cX5_swap 58 = .ok (.iconst 3, 1) := by decide +kernel
theorem dX5_swap_59 : decode cX5_swap 59 = .ok (.iload_n 1, 1) := by decide +kernel
theorem dX5_swap_60 : decode cX5_swap 60 = .ok (.imul, 1) := by decide +kernel
theorem dX5_swap_61 : decode cX5_swap 61 = .ok (.iconst 2, 1) := by decide +kernel
theorem dX5_swap_62 : decode cX5_swap 62 = .ok (.iadd, 1) := by decide +kernel
theorem dX5_swap_63 : decode cX5_swap 63 = .ok (.iaload, 1) := by decide +kernel
theorem dX5_swap_64 : decode cX5_swap 64 = .ok (.ireturn, 1) := by decide +kernel
theorem dX5_told_0 : decode cX5_told 0 = .ok (.iload_n 2, 1) := by decide +kernel
theorem dX5_told_1 : decode cX5_told 1 = .ok (.i2l, 1) := by decide +kernel
theorem dX5_told_2 : decode cX5_told 2 = .ok (.lconst 0, 1) := by decide +kernel
theorem dX5_told_3 : decode cX5_told 3 = .ok (.ldc2_w 126, 3) := by decide +kernel
theorem dX5_told_6 : decode cX5_told 6 = .ok (.invokestatic 76, 3) := by decide +kernel
theorem dX5_told_9 : decode cX5_told 9 = .ok (.ifCond .eq 12, 3) := by decide +kernel
theorem dX5_told_12 : decode cX5_told 12 = .ok (.aload_n 0, 1) := by decide +kernel
theorem dX5_told_13 : decode cX5_told 13 = .ok (.iload_n 2, 1) := by decide +kernel
theorem dX5_told_14 : decode cX5_told 14 = .ok (.iload_n 1, 1) := by decide +kernel
theorem dX5_told_15 : decode cX5_told 15 = .ok (.invokevirtual 92, 3) := by decide +kernel
theorem dX5_told_18 : decode cX5_told 18 = .ok (.ifCond .ne 7, 3) := by decide +kernel
theorem dX5_told_21 : decode cX5_told 21 = .ok (.sipush (-1000), 3) := by decide +kernel
theorem dX5_told_24 : decode cX5_told 24 = .ok (.ireturn, 1) := by decide +kernel
theorem dX5_told_25 : decode cX5_told 25 = .ok (.iload_n 2, 1) := by decide +kernel
theorem dX5_told_26 : decode cX5_told 26 = .ok (.iconst 4, 1) := by decide +kernel
theorem dX5_told_27 : decode cX5_told 27 = .ok (.if_icmp .ge 51, 3) := by decide +kernel
theorem dX5_told_30 : decode cX5_told 30 = .ok (.iload_n 2, 1) := by decide +kernel
theorem dX5_told_31 : decode cX5_told 31 = .ok (.ifCond .ne 10, 3) := by decide +kernel
theorem dX5_told_34 : decode cX5_told 34 = .ok (.aload_n 0, 1) := by decide +kernel
theorem dX5_told_35 : decode cX5_told 35 = .ok (.getfield 108, 3) := by decide +kernel
theorem dX5_told_38 : decode cX5_told 38 = .ok (.goto 39, 3) := by decide +kernel
theorem dX5_told_41 : decode cX5_told 41 = .ok (.iload_n 2, 1) := by decide +kernel
theorem dX5_told_42 : decode cX5_told 42 = .ok (.iconst 1, 1) := by decide +kernel
theorem dX5_told_43 : decode cX5_told 43 = .ok (.if_icmp .ne 10, 3) := by decide +kernel
theorem dX5_told_46 : decode cX5_told 46 = .ok (.aload_n 0, 1) := by decide +kernel
theorem dX5_told_47 : decode cX5_told 47 = .ok (.getfield 23, 3) := by decide +kernel
theorem dX5_told_50 : decode cX5_told 50 = .ok (.goto 27, 3) := by decide +kernel
theorem dX5_told_53 : decode cX5_told 53 = .ok (.iload_n 2, 1) := by decide +kernel
theorem dX5_told_54 : decode cX5_told 54 = .ok (.iconst 2, 1) := by decide +kernel
theorem dX5_told_55 : decode cX5_told 55 = .ok (.if_icmp .ne 14, 3) := by decide +kernel
theorem dX5_told_58 : decode cX5_told 58 = .ok (.aload_n 0, 1) := by decide +kernel
theorem dX5_told_59 : decode cX5_told 59 = .ok (.getfield 26, 3) := by decide +kernel
theorem dX5_told_62 : decode cX5_told 62 = .ok (.iconst 3, 1) := by decide +kernel
theorem dX5_told_63 : decode cX5_told 63 = .ok (.iload_n 1, 1) := by decide +kernel
theorem dX5_told_64 : decode cX5_told 64 = .ok (.imul, 1) := by decide +kernel
theorem dX5_told_65 : decode cX5_told 65 = .ok (.iaload, 1) := by decide +kernel
theorem dX5_told_66 : decode cX5_told 66 = .ok (.goto 11, 3) := by decide +kernel
theorem dX5_told_69 : decode cX5_told 69 = .ok (.aload_n 0, 1) := by decide +kernel
theorem dX5_told_70 : decode cX5_told 70 = .ok (.getfield 29, 3) := by decide +kernel
theorem dX5_told_73 : decode cX5_told 73 = .ok (.iconst 5, 1) := by decide +kernel
theorem dX5_told_74 : decode cX5_told 74 = .ok (.iload_n 1, 1) := by decide +kernel
theorem dX5_told_75 : decode cX5_told 75 = .ok (.imul, 1) := by decide +kernel
theorem dX5_told_76 : decode cX5_told 76 = .ok (.iaload, 1) := by decide +kernel
theorem dX5_told_77 : decode cX5_told 77 = .ok (.ireturn, 1) := by decide +kernel
theorem dX5_told_78 : decode cX5_told 78 = .ok (.iload_n 2, 1) := by decide +kernel
theorem dX5_told_79 : decode cX5_told 79 = .ok (.bipush 6, 2) := by decide +kernel
theorem dX5_told_81 : decode cX5_told 81 = .ok (.if_icmp .ge 18, 3) := by decide +kernel
theorem dX5_told_84 : decode cX5_told 84 = .ok (.aload_n 0, 1) := by decide +kernel
theorem dX5_told_85 : decode cX5_told 85 = .ok (.getfield 26, 3) := by decide +kernel
theorem dX5_told_88 : decode cX5_told 88 = .ok (.iconst 3, 1) := by decide +kernel
theorem dX5_told_89 : decode cX5_told 89 = .ok (.iload_n 1, 1) := by decide +kernel
theorem dX5_told_90 : decode cX5_told 90 = .ok (.imul, 1) := by decide +kernel
theorem dX5_told_91 : decode cX5_told 91 = .ok (.iload_n 2, 1) := by decide +kernel
theorem dX5_told_92 : decode cX5_told 92 = .ok (.iadd, 1) := by decide +kernel
theorem dX5_told_93 : decode cX5_told 93 = .ok (.iconst 3, 1) := by decide +kernel
theorem dX5_told_94 : decode cX5_told 94 = .ok (.isub, 1) := by decide +kernel
theorem dX5_told_95 : decode cX5_told 95 = .ok (.iaload, 1) := by decide +kernel
theorem dX5_told_96 : decode cX5_told 96 = .ok (.goto 30, 3) := by decide +kernel
theorem dX5_told_99 : decode cX5_told 99 = .ok (.iload_n 2, 1) := by decide +kernel
theorem dX5_told_100 : decode cX5_told 100 = .ok (.bipush 6, 2) := by decide +kernel
theorem dX5_told_102 : decode cX5_told 102 = .ok (.if_icmp .ne 11, 3) := by decide +kernel
theorem dX5_told_105 : decode cX5_told 105 = .ok (.aload_n 0, 1) := by decide +kernel
theorem dX5_told_106 : decode cX5_told 106 = .ok (.iload_n 1, 1) := by decide +kernel
theorem dX5_told_107 : decode cX5_told 107 = .ok (.invokevirtual 128, 3) := by decide +kernel
theorem dX5_told_110 : decode cX5_told 110 = .ok (.goto 16, 3) := by decide +kernel
theorem dX5_told_113 : decode cX5_told 113 = .ok (.aload_n 0, 1) := by decide +kernel
theorem dX5_told_114 : decode cX5_told 114 = .ok (.getfield 29, 3) := by decide +kernel
theorem dX5_told_117 : decode cX5_told 117 = .ok (.iconst 5, 1) := by decide +kernel
theorem dX5_told_118 : decode cX5_told 118 = .ok (.iload_n 1, 1) := by decide +kernel
theorem dX5_told_119 : decode cX5_told 119 = .ok (.imul, 1) := by decide +kernel
theorem dX5_told_120 : decode cX5_told 120 = .ok (.iload_n 2, 1) := by decide +kernel
theorem dX5_told_121 : decode cX5_told 121 = .ok (.iadd, 1) := by decide +kernel
theorem dX5_told_122 : decode cX5_told 122 = .ok (.bipush 6, 2) := by decide +kernel
theorem dX5_told_124 : decode cX5_told 124 = .ok (.isub, 1) := by decide +kernel
theorem dX5_told_125 : decode cX5_told 125 = .ok (.iaload, 1) := by decide +kernel
theorem dX5_told_126 : decode cX5_told 126 = .ok (.ireturn, 1) := by decide +kernel
theorem dX5_known_0 : decode cX5_known 0 = .ok (.iconst 0, 1) := by decide +kernel
theorem dX5_known_1 : decode cX5_known 1 = .ok (.istore_n 2, 1) := by decide +kernel
theorem dX5_known_2 : decode cX5_known 2 = .ok (.iconst 0, 1) := by decide +kernel
theorem dX5_known_3 : decode cX5_known 3 = .ok (.istore_n 3, 1) := by decide +kernel
theorem dX5_known_4 : decode cX5_known 4 = .ok (.iload_n 3, 1) := by decide +kernel
theorem dX5_known_5 : decode cX5_known 5 = .ok (.aload_n 0, 1) := by decide +kernel
theorem dX5_known_6 : decode cX5_known 6 = .ok (.getfield 80, 3) := by decide +kernel
theorem dX5_known_9 : decode cX5_known 9 = .ok (.if_icmp .ge 28, 3) := by decide +kernel
theorem dX5_known_12 : decode cX5_known 12 = .ok (.iload_n 2, 1) := by decide +kernel
theorem dX5_known_13 : decode cX5_known 13 = .ok (.aload_n 0, 1) := by decide +kernel
theorem dX5_known_14 : decode cX5_known 14 = .ok (.getfield 29, 3) := by decide +kernel
theorem dX5_known_17 : decode cX5_known 17 = .ok (.iconst 5, 1) := by decide +kernel
theorem dX5_known_18 : decode cX5_known 18 = .ok (.iload_n 3, 1) := by decide +kernel
theorem dX5_known_19 : decode cX5_known 19 = .ok (.imul, 1) := by decide +kernel
theorem dX5_known_20 : decode cX5_known 20 = .ok (.iconst 4, 1) := by decide +kernel
theorem dX5_known_21 : decode cX5_known 21 = .ok (.iadd, 1) := by decide +kernel
theorem dX5_known_22 : decode cX5_known 22 = .ok (.iaload, 1) := by decide +kernel
theorem dX5_known_23 : decode cX5_known 23 = .ok (.iload_n 1, 1) := by decide +kernel
theorem dX5_known_24 : decode cX5_known 24 = .ok (.ishr, 1) := by decide +kernel
theorem dX5_known_25 : decode cX5_known 25 = .ok (.iconst 1, 1) := by decide +kernel
theorem dX5_known_26 : decode cX5_known 26 = .ok (.iand, 1) := by decide +kernel
theorem dX5_known_27 : decode cX5_known 27 = .ok (.iload_n 3, 1) := by decide +kernel
theorem dX5_known_28 : decode cX5_known 28 = .ok (.ishl, 1) := by decide +kernel
theorem dX5_known_29 : decode cX5_known 29 = .ok (.ior, 1) := by decide +kernel
theorem dX5_known_30 : decode cX5_known 30 = .ok (.istore_n 2, 1) := by decide +kernel
theorem dX5_known_31 : decode cX5_known 31 = .ok (.iinc 3 1, 3) := by decide +kernel
theorem dX5_known_34 : decode cX5_known 34 = .ok (.goto (-30), 3) := by decide +kernel
theorem dX5_known_37 : decode cX5_known 37 = .ok (.iload_n 2, 1) := by decide +kernel
theorem dX5_known_38 : decode cX5_known 38 = .ok (.ireturn, 1) := by decide +kernel
theorem dX5_bitsOf_0 : decode cX5_bitsOf 0 = .ok (.iconst 0, 1) := by decide +kernel
theorem dX5_bitsOf_1 : decode cX5_bitsOf 1 = .ok (.istore_n 1, 1) := by decide +kernel
theorem dX5_bitsOf_2 : decode cX5_bitsOf 2 = .ok (.iload_n 0, 1) := by decide +kernel
theorem dX5_bitsOf_3 : decode cX5_bitsOf 3 = .ok (.istore_n 2, 1) := by decide +kernel
theorem dX5_bitsOf_4 : decode cX5_bitsOf 4 = .ok (.iload_n 2, 1) := by decide +kernel
theorem dX5_bitsOf_5 : decode cX5_bitsOf 5 = .ok (.ifCond .eq 15, 3) := by decide +kernel
theorem dX5_bitsOf_8 : decode cX5_bitsOf 8 = .ok (.iinc 1 1, 3) := by decide +kernel
theorem dX5_bitsOf_11 : decode cX5_bitsOf 11 = .ok (.iload_n 2, 1) := by decide +kernel
theorem dX5_bitsOf_12 : decode cX5_bitsOf 12 = .ok (.iload_n 2, 1) := by decide +kernel
theorem dX5_bitsOf_13 : decode cX5_bitsOf 13 = .ok (.iconst 1, 1) := by decide +kernel
theorem dX5_bitsOf_14 : decode cX5_bitsOf 14 = .ok (.isub, 1) := by decide +kernel
theorem dX5_bitsOf_15 : decode cX5_bitsOf 15 = .ok (.iand, 1) := by decide +kernel
theorem dX5_bitsOf_16 : decode cX5_bitsOf 16 = .ok (.istore_n 2, 1) := by decide +kernel
theorem dX5_bitsOf_17 : decode cX5_bitsOf 17 = .ok (.goto (-13), 3) := by decide +kernel
theorem dX5_bitsOf_20 : decode cX5_bitsOf 20 = .ok (.iload_n 1, 1) := by decide +kernel
theorem dX5_bitsOf_21 : decode cX5_bitsOf 21 = .ok (.ireturn, 1) := by decide +kernel
theorem dX5_feed_0 : decode cX5_feed 0 = .ok (.iload_n 1, 1) := by decide +kernel
theorem dX5_feed_1 : decode cX5_feed 1 = .ok (.i2l, 1) := by decide +kernel
theorem dX5_feed_2 : decode cX5_feed 2 = .ok (.lconst 0, 1) := by decide +kernel
theorem dX5_feed_3 : decode cX5_feed 3 = .ok (.ldc2_w 131, 3) := by decide +kernel
theorem dX5_feed_6 : decode cX5_feed 6 = .ok (.invokestatic 76, 3) := by decide +kernel
theorem dX5_feed_9 : decode cX5_feed 9 = .ok (.ifCond .ne 6, 3) := by decide +kernel
theorem dX5_feed_12 : decode cX5_feed 12 = .ok (.bipush (-2), 2) := by decide +kernel
theorem dX5_feed_14 : decode cX5_feed 14 = .ok (.ireturn, 1) := by decide +kernel
theorem dX5_feed_15 : decode cX5_feed 15 = .ok (.aload_n 0, 1) := by decide +kernel
theorem dX5_feed_16 : decode cX5_feed 16 = .ok (.getfield 133, 3) := by decide +kernel
theorem dX5_feed_19 : decode cX5_feed 19 = .ok (.sipush 160, 3) := by decide +kernel
theorem dX5_feed_22 : decode cX5_feed 22 = .ok (.if_icmp .ne 6, 3) := by decide +kernel
theorem dX5_feed_25 : decode cX5_feed 25 = .ok (.bipush (-4), 2) := by decide +kernel
theorem dX5_feed_27 : decode cX5_feed 27 = .ok (.ireturn, 1) := by decide +kernel
theorem dX5_feed_28 : decode cX5_feed 28 = .ok (.aload_n 0, 1) := by decide +kernel
theorem dX5_feed_29 : decode cX5_feed 29 = .ok (.getfield 20, 3) := by decide +kernel
theorem dX5_feed_32 : decode cX5_feed 32 = .ok (.aload_n 0, 1) := by decide +kernel
theorem dX5_feed_33 : decode cX5_feed 33 = .ok (.getfield 133, 3) := by decide +kernel
theorem dX5_feed_36 : decode cX5_feed 36 = .ok (.iload_n 1, 1) := by decide +kernel
theorem dX5_feed_37 : decode cX5_feed 37 = .ok (.iastore, 1) := by decide +kernel
theorem dX5_feed_38 : decode cX5_feed 38 = .ok (.aload_n 0, 1) := by decide +kernel
theorem dX5_feed_39 : decode cX5_feed 39 = .ok (.dup, 1) := by decide +kernel
theorem dX5_feed_40 : decode cX5_feed 40 = .ok (.getfield 133, 3) := by decide +kernel
theorem dX5_feed_43 : decode cX5_feed 43 = .ok (.iconst 1, 1) := by decide +kernel
theorem dX5_feed_44 : decode cX5_feed 44 = .ok (.iadd, 1) := by decide +kernel
theorem dX5_feed_45 : decode cX5_feed 45 = .ok (.putfield 133, 3) := by decide +kernel
theorem dX5_feed_48 : decode cX5_feed 48 = .ok (.aload_n 0, 1) := by decide +kernel
theorem dX5_feed_49 : decode cX5_feed 49 = .ok (.getfield 133, 3) := by decide +kernel
theorem dX5_feed_52 : decode cX5_feed 52 = .ok (.ireturn, 1) := by decide +kernel
theorem dX5_byteAt_0 : decode cX5_byteAt 0 = .ok (.iload_n 1, 1) := by decide +kernel
theorem dX5_byteAt_1 : decode cX5_byteAt 1 = .ok (.aload_n 0, 1) := by decide +kernel
theorem dX5_byteAt_2 : decode cX5_byteAt 2 = .ok (.getfield 136, 3) := by decide +kernel
theorem dX5_byteAt_5 : decode cX5_byteAt 5 = .ok (.if_icmp .ge 17, 3) := by decide +kernel
theorem dX5_byteAt_8 : decode cX5_byteAt 8 = .ok (.aload_n 0, 1) := by decide +kernel
theorem dX5_byteAt_9 : decode cX5_byteAt 9 = .ok (.getfield 13, 3) := by decide +kernel
theorem dX5_byteAt_12 : decode cX5_byteAt 12 = .ok (.aload_n 0, 1) := by decide +kernel
theorem dX5_byteAt_13 : decode cX5_byteAt 13 = .ok (.getfield 139, 3) := by decide +kernel
theorem dX5_byteAt_16 : decode cX5_byteAt 16 = .ok (.iload_n 1, 1) := by decide +kernel
theorem dX5_byteAt_17 : decode cX5_byteAt 17 = .ok (.iadd, 1) := by decide +kernel
theorem dX5_byteAt_18 : decode cX5_byteAt 18 = .ok (.iaload, 1) := by decide +kernel
theorem dX5_byteAt_19 : decode cX5_byteAt 19 = .ok (.goto 4, 3) := by decide +kernel
theorem dX5_byteAt_22 : decode cX5_byteAt 22 = .ok (.iconst (-1), 1) := by decide +kernel
theorem dX5_byteAt_23 : decode cX5_byteAt 23 = .ok (.ireturn, 1) := by decide +kernel
theorem dX5_next_0 : decode cX5_next 0 = .ok (.aload_n 0, 1) := by decide +kernel
theorem dX5_next_1 : decode cX5_next 1 = .ok (.aload_n 0, 1) := by decide +kernel
theorem dX5_next_2 : decode cX5_next 2 = .ok (.getfield 142, 3) := by decide +kernel
theorem dX5_next_5 : decode cX5_next 5 = .ok (.invokevirtual 145, 3) := by decide +kernel
theorem dX5_next_8 : decode cX5_next 8 = .ok (.bipush 32, 2) := by decide +kernel
theorem dX5_next_10 : decode cX5_next 10 = .ok (.if_icmp .eq 16, 3) := by decide +kernel
theorem dX5_next_13 : decode cX5_next 13 = .ok (.aload_n 0, 1) := by decide +kernel
theorem dX5_next_14 : decode cX5_next 14 = .ok (.aload_n 0, 1) := by decide +kernel
theorem dX5_next_15 : decode cX5_next 15 = .ok (.getfield 142, 3) := by decide +kernel
theorem dX5_next_18 : decode cX5_next 18 = .ok (.invokevirtual 145, 3) := by decide +kernel
theorem dX5_next_21 : decode cX5_next 21 = .ok (.bipush 10, 2) := by decide +kernel
theorem dX5_next_23 : decode cX5_next 23 = .ok (.if_icmp .ne 16, 3) := by decide +kernel
theorem dX5_next_26 : decode cX5_next 26 = .ok (.aload_n 0, 1) := by decide +kernel
theorem dX5_next_27 : decode cX5_next 27 = .ok (.dup, 1) := by decide +kernel
theorem dX5_next_28 : decode cX5_next 28 = .ok (.getfield 142, 3) := by decide +kernel
theorem dX5_next_31 : decode cX5_next 31 = .ok (.iconst 1, 1) := by decide +kernel
theorem dX5_next_32 : decode cX5_next 32 = .ok (.iadd, 1) := by decide +kernel
theorem dX5_next_33 : decode cX5_next 33 = .ok (.putfield 142, 3) := by decide +kernel
theorem dX5_next_36 : decode cX5_next 36 = .ok (.goto (-36), 3) := by decide +kernel
theorem dX5_next_39 : decode cX5_next 39 = .ok (.aload_n 0, 1) := by decide +kernel
theorem dX5_next_40 : decode cX5_next 40 = .ok (.aload_n 0, 1) := by decide +kernel
theorem dX5_next_41 : decode cX5_next 41 = .ok (.getfield 142, 3) := by decide +kernel
theorem dX5_next_44 : decode cX5_next 44 = .ok (.putfield 148, 3) := by decide +kernel
theorem dX5_next_47 : decode cX5_next 47 = .ok (.aload_n 0, 1) := by decide +kernel
theorem dX5_next_48 : decode cX5_next 48 = .ok (.aload_n 0, 1) := by decide +kernel
theorem dX5_next_49 : decode cX5_next 49 = .ok (.getfield 142, 3) := by decide +kernel
theorem dX5_next_52 : decode cX5_next 52 = .ok (.invokevirtual 145, 3) := by decide +kernel
theorem dX5_next_55 : decode cX5_next 55 = .ok (.istore_n 1, 1) := by decide +kernel
theorem dX5_next_56 : decode cX5_next 56 = .ok (.aload_n 0, 1) := by decide +kernel
theorem dX5_next_57 : decode cX5_next 57 = .ok (.iconst 4, 1) := by decide +kernel
theorem dX5_next_58 : decode cX5_next 58 = .ok (.putfield 151, 3) := by decide +kernel
theorem dX5_next_61 : decode cX5_next 61 = .ok (.iload_n 1, 1) := by decide +kernel
theorem dX5_next_62 : decode cX5_next 62 = .ok (.ifCond .ge 19, 3) := by decide +kernel
theorem dX5_next_65 : decode cX5_next 65 = .ok (.aload_n 0, 1) := by decide +kernel
theorem dX5_next_66 : decode cX5_next 66 = .ok (.iconst 0, 1) := by decide +kernel
theorem dX5_next_67 : decode cX5_next 67 = .ok (.putfield 151, 3) := by decide +kernel
theorem dX5_next_70 : decode cX5_next 70 = .ok (.aload_n 0, 1) := by decide +kernel
theorem dX5_next_71 : decode cX5_next 71 = .ok (.aload_n 0, 1) := by decide +kernel
theorem dX5_next_72 : decode cX5_next 72 = .ok (.getfield 136, 3) := by decide +kernel
theorem dX5_next_75 : decode cX5_next 75 = .ok (.putfield 148, 3) := by decide +kernel
theorem dX5_next_78 : decode cX5_next 78 = .ok (.goto 243, 3) := by decide +kernel
theorem dX5_next_81 : decode cX5_next 81 = .ok (.iload_n 1, 1) := by decide +kernel
theorem dX5_next_82 : decode cX5_next 82 = .ok (.i2l, 1) := by decide +kernel
theorem dX5_next_83 : decode cX5_next 83 = .ok (.ldc2_w 154, 3) := by decide +kernel
theorem dX5_next_86 : decode cX5_next 86 = .ok (.ldc2_w 156, 3) := by decide +kernel
theorem dX5_next_89 : decode cX5_next 89 = .ok (.invokestatic 76, 3) := by decide +kernel
theorem dX5_next_92 : decode cX5_next 92 = .ok (.ifCond .eq 42, 3) := by decide +kernel
theorem dX5_next_95 : decode cX5_next 95 = .ok (.aload_n 0, 1) := by decide +kernel
theorem dX5_next_96 : decode cX5_next 96 = .ok (.iconst 1, 1) := by decide +kernel
theorem dX5_next_97 : decode cX5_next 97 = .ok (.putfield 151, 3) := by decide +kernel
theorem dX5_next_100 : decode cX5_next 100 = .ok (.aload_n 0, 1) := by decide +kernel
theorem dX5_next_101 : decode cX5_next 101 = .ok (.aload_n 0, 1) := by decide +kernel
theorem dX5_next_102 : decode cX5_next 102 = .ok (.getfield 142, 3) := by decide +kernel
theorem dX5_next_105 : decode cX5_next 105 = .ok (.invokevirtual 145, 3) := by decide +kernel
theorem dX5_next_108 : decode cX5_next 108 = .ok (.i2l, 1) := by decide +kernel
theorem dX5_next_109 : decode cX5_next 109 = .ok (.ldc2_w 154, 3) := by decide +kernel
theorem dX5_next_112 : decode cX5_next 112 = .ok (.ldc2_w 156, 3) := by decide +kernel
theorem dX5_next_115 : decode cX5_next 115 = .ok (.invokestatic 76, 3) := by decide +kernel
theorem dX5_next_118 : decode cX5_next 118 = .ok (.ifCond .eq 203, 3) := by decide +kernel
theorem dX5_next_121 : decode cX5_next 121 = .ok (.aload_n 0, 1) := by decide +kernel
theorem dX5_next_122 : decode cX5_next 122 = .ok (.dup, 1) := by decide +kernel
theorem dX5_next_123 : decode cX5_next 123 = .ok (.getfield 142, 3) := by decide +kernel
theorem dX5_next_126 : decode cX5_next 126 = .ok (.iconst 1, 1) := by decide +kernel
theorem dX5_next_127 : decode cX5_next 127 = .ok (.iadd, 1) := by decide +kernel
theorem dX5_next_128 : decode cX5_next 128 = .ok (.putfield 142, 3) := by decide +kernel
theorem dX5_next_131 : decode cX5_next 131 = .ok (.goto (-31), 3) := by decide +kernel
theorem dX5_next_134 : decode cX5_next 134 = .ok (.iload_n 1, 1) := by decide +kernel
theorem dX5_next_135 : decode cX5_next 135 = .ok (.i2l, 1) := by decide +kernel
theorem dX5_next_136 : decode cX5_next 136 = .ok (.ldc2_w 158, 3) := by decide +kernel
theorem dX5_next_139 : decode cX5_next 139 = .ok (.ldc2_w 160, 3) := by decide +kernel
theorem dX5_next_142 : decode cX5_next 142 = .ok (.invokestatic 76, 3) := by decide +kernel
theorem dX5_next_145 : decode cX5_next 145 = .ok (.ifCond .eq 107, 3) := by decide +kernel
theorem dX5_next_148 : decode cX5_next 148 = .ok (.aload_n 0, 1) := by decide +kernel
theorem dX5_next_149 : decode cX5_next 149 = .ok (.iconst 2, 1) := by decide +kernel
theorem dX5_next_150 : decode cX5_next 150 = .ok (.putfield 151, 3) := by decide +kernel
theorem dX5_next_153 : decode cX5_next 153 = .ok (.aload_n 0, 1) := by decide +kernel
theorem dX5_next_154 : decode cX5_next 154 = .ok (.lconst 0, 1) := by decide +kernel
theorem dX5_next_155 : decode cX5_next 155 = .ok (.putfield 162, 3) := by decide +kernel
theorem dX5_next_158 : decode cX5_next 158 = .ok (.iconst 0, 1) := by decide +kernel
theorem dX5_next_159 : decode cX5_next 159 = .ok (.istore_n 2, 1) := by decide +kernel
theorem dX5_next_160 : decode cX5_next 160 = .ok (.aload_n 0, 1) := by decide +kernel
theorem dX5_next_161 : decode cX5_next 161 = .ok (.aload_n 0, 1) := by decide +kernel
theorem dX5_next_162 : decode cX5_next 162 = .ok (.getfield 142, 3) := by decide +kernel
theorem dX5_next_165 : decode cX5_next 165 = .ok (.invokevirtual 145, 3) := by decide +kernel
theorem dX5_next_168 : decode cX5_next 168 = .ok (.i2l, 1) := by decide +kernel
theorem dX5_next_169 : decode cX5_next 169 = .ok (.ldc2_w 158, 3) := by decide +kernel
theorem dX5_next_172 : decode cX5_next 172 = .ok (.ldc2_w 160, 3) := by decide +kernel
theorem dX5_next_175 : decode cX5_next 175 = .ok (.invokestatic 76, 3) := by decide +kernel
theorem dX5_next_178 : decode cX5_next 178 = .ok (.ifCond .eq 57, 3) := by decide +kernel
theorem dX5_next_181 : decode cX5_next 181 = .ok (.aload_n 0, 1) := by decide +kernel
theorem dX5_next_182 : decode cX5_next 182 = .ok (.iload_n 2, 1) := by decide +kernel
theorem dX5_next_183 : decode cX5_next 183 = .ok (.iconst 4, 1) := by decide +kernel
theorem dX5_next_184 : decode cX5_next 184 = .ok (.if_icmp .ge 28, 3) := by decide +kernel
theorem dX5_next_187 : decode cX5_next 187 = .ok (.ldc2_w 126, 3) := by decide +kernel
theorem dX5_next_190 : decode cX5_next 190 = .ok (.aload_n 0, 1) := by decide +kernel
theorem dX5_next_191 : decode cX5_next 191 = .ok (.getfield 162, 3) := by decide +kernel
theorem dX5_next_194 : decode cX5_next 194 = .ok (.lmul, 1) := by decide +kernel
theorem dX5_next_195 : decode cX5_next 195 = .ok (.aload_n 0, 1) := by decide +kernel
theorem dX5_next_196 : decode cX5_next 196 = .ok (.aload_n 0, 1) := by decide +kernel
theorem dX5_next_197 : decode cX5_next 197 = .ok (.getfield 142, 3) := by decide +kernel
theorem dX5_next_200 : decode cX5_next 200 = .ok (.invokevirtual 145, 3) := by decide +kernel
theorem dX5_next_203 : decode cX5_next 203 = .ok (.i2l, 1) := by decide +kernel
theorem dX5_next_204 : decode cX5_next 204 = .ok (.ladd, 1) := by decide +kernel
theorem dX5_next_205 : decode cX5_next 205 = .ok (.ldc2_w 158, 3) := by decide +kernel
theorem dX5_next_208 : decode cX5_next 208 = .ok (.lsub, 1) := by decide +kernel
theorem dX5_next_209 : decode cX5_next 209 = .ok (.goto 7, 3) := by decide +kernel
theorem dX5_next_212 : decode cX5_next 212 = .ok (.aload_n 0, 1) := by decide +kernel
theorem dX5_next_213 : decode cX5_next 213 = .ok (.getfield 162, 3) := by decide +kernel
theorem dX5_next_216 : decode cX5_next 216 = .ok (.putfield 162, 3) := by decide +kernel
theorem dX5_next_219 : decode cX5_next 219 = .ok (.iinc 2 1, 3) := by decide +kernel
theorem dX5_next_222 : decode cX5_next 222 = .ok (.aload_n 0, 1) := by decide +kernel
theorem dX5_next_223 : decode cX5_next 223 = .ok (.dup, 1) := by decide +kernel
theorem dX5_next_224 : decode cX5_next 224 = .ok (.getfield 142, 3) := by decide +kernel
theorem dX5_next_227 : decode cX5_next 227 = .ok (.iconst 1, 1) := by decide +kernel
theorem dX5_next_228 : decode cX5_next 228 = .ok (.iadd, 1) := by decide +kernel
theorem dX5_next_229 : decode cX5_next 229 = .ok (.putfield 142, 3) := by decide +kernel
theorem dX5_next_232 : decode cX5_next 232 = .ok (.goto (-72), 3) := by decide +kernel
theorem dX5_next_235 : decode cX5_next 235 = .ok (.aload_n 0, 1) := by decide +kernel
theorem dX5_next_236 : decode cX5_next 236 = .ok (.iload_n 2, 1) := by decide +kernel
theorem dX5_next_237 : decode cX5_next 237 = .ok (.iconst 4, 1) := by decide +kernel
theorem dX5_next_238 : decode cX5_next 238 = .ok (.if_icmp .le 7, 3) := by decide +kernel
theorem dX5_next_241 : decode cX5_next 241 = .ok (.iconst 4, 1) := by decide +kernel
theorem dX5_next_242 : decode cX5_next 242 = .ok (.goto 4, 3) := by decide +kernel
theorem dX5_next_245 : decode cX5_next 245 = .ok (.iconst 2, 1) := by decide +kernel
theorem dX5_next_246 : decode cX5_next 246 = .ok (.putfield 151, 3) := by decide +kernel
theorem dX5_next_249 : decode cX5_next 249 = .ok (.goto 72, 3) := by decide +kernel
theorem dX5_next_252 : decode cX5_next 252 = .ok (.iload_n 1, 1) := by decide +kernel
theorem dX5_next_253 : decode cX5_next 253 = .ok (.bipush 40, 2) := by decide +kernel
theorem dX5_next_255 : decode cX5_next 255 = .ok (.if_icmp .eq 45, 3) := by decide +kernel
theorem dX5_next_258 : decode cX5_next 258 = .ok (.iload_n 1, 1) := by decide +kernel
theorem dX5_next_259 : decode cX5_next 259 = .ok (.bipush 41, 2) := by decide +kernel
theorem dX5_next_261 : decode cX5_next 261 = .ok (.if_icmp .eq 39, 3) := by decide +kernel
theorem dX5_next_264 : decode cX5_next 264 = .ok (.iload_n 1, 1) := by decide +kernel
theorem dX5_next_265 : decode cX5_next 265 = .ok (.bipush 59, 2) := by decide +kernel
theorem dX5_next_267 : decode cX5_next 267 = .ok (.if_icmp .eq 33, 3) := by decide +kernel
theorem dX5_next_270 : decode cX5_next 270 = .ok (.iload_n 1, 1) := by decide +kernel
theorem dX5_next_271 : decode cX5_next 271 = .ok (.bipush 43, 2) := by decide +kernel
theorem dX5_next_273 : decode cX5_next 273 = .ok (.if_icmp .eq 27, 3) := by decide +kernel
theorem dX5_next_276 : decode cX5_next 276 = .ok (.iload_n 1, 1) := by decide +kernel
theorem dX5_next_277 : decode cX5_next 277 = .ok (.bipush 45, 2) := by decide +kernel
theorem dX5_next_279 : decode cX5_next 279 = .ok (.if_icmp .eq 21, 3) := by decide +kernel
theorem dX5_next_282 : decode cX5_next 282 = .ok (.iload_n 1, 1) := by decide +kernel
theorem dX5_next_283 : decode cX5_next 283 = .ok (.bipush 42, 2) := by decide +kernel
theorem dX5_next_285 : decode cX5_next 285 = .ok (.if_icmp .eq 15, 3) := by decide +kernel
theorem dX5_next_288 : decode cX5_next 288 = .ok (.iload_n 1, 1) := by decide +kernel
theorem dX5_next_289 : decode cX5_next 289 = .ok (.bipush 60, 2) := by decide +kernel
theorem dX5_next_291 : decode cX5_next 291 = .ok (.if_icmp .eq 9, 3) := by decide +kernel
theorem dX5_next_294 : decode cX5_next 294 = .ok (.iload_n 1, 1) := by decide +kernel
theorem dX5_next_295 : decode cX5_next 295 = .ok (.bipush 61, 2) := by decide +kernel
theorem dX5_next_297 : decode cX5_next 297 = .ok (.if_icmp .ne 24, 3) := by decide +kernel
theorem dX5_next_300 : decode cX5_next 300 = .ok (.aload_n 0, 1) := by decide +kernel
theorem dX5_next_301 : decode cX5_next 301 = .ok (.iconst 3, 1) := by decide +kernel
theorem dX5_next_302 : decode cX5_next 302 = .ok (.putfield 151, 3) := by decide +kernel
theorem dX5_next_305 : decode cX5_next 305 = .ok (.aload_n 0, 1) := by decide +kernel
theorem dX5_next_306 : decode cX5_next 306 = .ok (.iload_n 1, 1) := by decide +kernel
end
section
theorem dX5_next_307 : decode cX5_next 307 = .ok (.i2l, 1) := by decide +kernel
theorem dX5_next_308 : decode cX5_next 308 = .ok (.putfield 162, 3) := by decide +kernel
theorem dX5_next_311 : decode cX5_next 311 = .ok (.aload_n 0, 1) := by decide +kernel
theorem dX5_next_312 : decode cX5_next 312 = .ok (.dup, 1) := by decide +kernel
theorem dX5_next_313 : decode cX5_next 313 = .ok (.getfield 142, 3) := by decide +kernel
theorem dX5_next_316 : decode cX5_next 316 = .ok (.iconst 1, 1) := by decide +kernel
theorem dX5_next_317 : decode cX5_next 317 = .ok (.iadd, 1) := by decide +kernel
theorem dX5_next_318 : decode cX5_next 318 = .ok (.putfield 142, 3) := by decide +kernel
theorem dX5_next_321 : decode cX5_next 321 = .ok (.return_, 1) := by decide +kernel
theorem dX5_fail_0 : decode cX5_fail 0 = .ok (.aload_n 0, 1) := by decide +kernel
theorem dX5_fail_1 : decode cX5_fail 1 = .ok (.getfield 166, 3) := by decide +kernel
theorem dX5_fail_4 : decode cX5_fail 4 = .ok (.ifCond .ne 16, 3) := by decide +kernel
theorem dX5_fail_7 : decode cX5_fail 7 = .ok (.aload_n 0, 1) := by decide +kernel
theorem dX5_fail_8 : decode cX5_fail 8 = .ok (.iconst 1, 1) := by decide +kernel
theorem dX5_fail_9 : decode cX5_fail 9 = .ok (.putfield 166, 3) := by decide +kernel
theorem dX5_fail_12 : decode cX5_fail 12 = .ok (.aload_n 0, 1) := by decide +kernel
theorem dX5_fail_13 : decode cX5_fail 13 = .ok (.aload_n 0, 1) := by decide +kernel
theorem dX5_fail_14 : decode cX5_fail 14 = .ok (.getfield 148, 3) := by decide +kernel
theorem dX5_fail_17 : decode cX5_fail 17 = .ok (.putfield 170, 3) := by decide +kernel
theorem dX5_fail_20 : decode cX5_fail 20 = .ok (.return_, 1) := by decide +kernel
theorem dX5_isLetter__0 : decode cX5_isLetter_ 0 = .ok (.aload_n 0, 1) := by decide +kernel
theorem dX5_isLetter__1 : decode cX5_isLetter_ 1 = .ok (.getfield 148, 3) := by decide +kernel
theorem dX5_isLetter__4 : decode cX5_isLetter_ 4 = .ok (.iload_n 1, 1) := by decide +kernel
theorem dX5_isLetter__5 : decode cX5_isLetter_ 5 = .ok (.iadd, 1) := by decide +kernel
theorem dX5_isLetter__6 : decode cX5_isLetter_ 6 = .ok (.aload_n 0, 1) := by decide +kernel
theorem dX5_isLetter__7 : decode cX5_isLetter_ 7 = .ok (.getfield 142, 3) := by decide +kernel
theorem dX5_isLetter__10 : decode cX5_isLetter_ 10 = .ok (.if_icmp .ge 25, 3) := by decide +kernel
theorem dX5_isLetter__13 : decode cX5_isLetter_ 13 = .ok (.aload_n 0, 1) := by decide +kernel
theorem dX5_isLetter__14 : decode cX5_isLetter_ 14 = .ok (.aload_n 0, 1) := by decide +kernel
theorem dX5_isLetter__15 : decode cX5_isLetter_ 15 = .ok (.getfield 148, 3) := by decide +kernel
theorem dX5_isLetter__18 : decode cX5_isLetter_ 18 = .ok (.iload_n 1, 1) := by decide +kernel
theorem dX5_isLetter__19 : decode cX5_isLetter_ 19 = .ok (.iadd, 1) := by decide +kernel
theorem dX5_isLetter__20 : decode cX5_isLetter_ 20 = .ok (.invokevirtual 145, 3) := by decide +kernel
theorem dX5_isLetter__23 : decode cX5_isLetter_ 23 = .ok (.iload_n 2, 1) := by decide +kernel
theorem dX5_isLetter__24 : decode cX5_isLetter_ 24 = .ok (.if_icmp .ne 7, 3) := by decide +kernel
theorem dX5_isLetter__27 : decode cX5_isLetter_ 27 = .ok (.iconst 1, 1) := by decide +kernel
theorem dX5_isLetter__28 : decode cX5_isLetter_ 28 = .ok (.goto 16, 3) := by decide +kernel
theorem dX5_isLetter__31 : decode cX5_isLetter_ 31 = .ok (.iconst 0, 1) := by decide +kernel
theorem dX5_isLetter__32 : decode cX5_isLetter_ 32 = .ok (.goto 12, 3) := by decide +kernel
theorem dX5_isLetter__35 : decode cX5_isLetter_ 35 = .ok (.iload_n 2, 1) := by decide +kernel
theorem dX5_isLetter__36 : decode cX5_isLetter_ 36 = .ok (.ifCond .ne 7, 3) := by decide +kernel
theorem dX5_isLetter__39 : decode cX5_isLetter_ 39 = .ok (.iconst 1, 1) := by decide +kernel
theorem dX5_isLetter__40 : decode cX5_isLetter_ 40 = .ok (.goto 4, 3) := by decide +kernel
theorem dX5_isLetter__43 : decode cX5_isLetter_ 43 = .ok (.iconst 0, 1) := by decide +kernel
theorem dX5_isLetter__44 : decode cX5_isLetter_ 44 = .ok (.ireturn, 1) := by decide +kernel
theorem dX5_isWord_0 : decode cX5_isWord 0 = .ok (.aload_n 0, 1) := by decide +kernel
theorem dX5_isWord_1 : decode cX5_isWord 1 = .ok (.getfield 166, 3) := by decide +kernel
theorem dX5_isWord_4 : decode cX5_isWord 4 = .ok (.ifCond .ne 108, 3) := by decide +kernel
theorem dX5_isWord_7 : decode cX5_isWord 7 = .ok (.aload_n 0, 1) := by decide +kernel
theorem dX5_isWord_8 : decode cX5_isWord 8 = .ok (.getfield 151, 3) := by decide +kernel
theorem dX5_isWord_11 : decode cX5_isWord 11 = .ok (.iconst 1, 1) := by decide +kernel
theorem dX5_isWord_12 : decode cX5_isWord 12 = .ok (.if_icmp .ne 100, 3) := by decide +kernel
theorem dX5_isWord_15 : decode cX5_isWord 15 = .ok (.aload_n 0, 1) := by decide +kernel
theorem dX5_isWord_16 : decode cX5_isWord 16 = .ok (.getfield 142, 3) := by decide +kernel
theorem dX5_isWord_19 : decode cX5_isWord 19 = .ok (.aload_n 0, 1) := by decide +kernel
theorem dX5_isWord_20 : decode cX5_isWord 20 = .ok (.getfield 148, 3) := by decide +kernel
theorem dX5_isWord_23 : decode cX5_isWord 23 = .ok (.bipush 8, 2) := by decide +kernel
theorem dX5_isWord_25 : decode cX5_isWord 25 = .ok (.iadd, 1) := by decide +kernel
theorem dX5_isWord_26 : decode cX5_isWord 26 = .ok (.if_icmp .gt 86, 3) := by decide +kernel
theorem dX5_isWord_29 : decode cX5_isWord 29 = .ok (.aload_n 0, 1) := by decide +kernel
theorem dX5_isWord_30 : decode cX5_isWord 30 = .ok (.iconst 0, 1) := by decide +kernel
theorem dX5_isWord_31 : decode cX5_isWord 31 = .ok (.iload_n 1, 1) := by decide +kernel
theorem dX5_isWord_32 : decode cX5_isWord 32 = .ok (.invokevirtual 173, 3) := by decide +kernel
theorem dX5_isWord_35 : decode cX5_isWord 35 = .ok (.ifCond .eq 77, 3) := by decide +kernel
theorem dX5_isWord_38 : decode cX5_isWord 38 = .ok (.aload_n 0, 1) := by decide +kernel
theorem dX5_isWord_39 : decode cX5_isWord 39 = .ok (.iconst 1, 1) := by decide +kernel
theorem dX5_isWord_40 : decode cX5_isWord 40 = .ok (.iload_n 2, 1) := by decide +kernel
theorem dX5_isWord_41 : decode cX5_isWord 41 = .ok (.invokevirtual 173, 3) := by decide +kernel
theorem dX5_isWord_44 : decode cX5_isWord 44 = .ok (.ifCond .eq 68, 3) := by decide +kernel
theorem dX5_isWord_47 : decode cX5_isWord 47 = .ok (.aload_n 0, 1) := by decide +kernel
theorem dX5_isWord_48 : decode cX5_isWord 48 = .ok (.iconst 2, 1) := by decide +kernel
theorem dX5_isWord_49 : decode cX5_isWord 49 = .ok (.iload_n 3, 1) := by decide +kernel
theorem dX5_isWord_50 : decode cX5_isWord 50 = .ok (.invokevirtual 173, 3) := by decide +kernel
theorem dX5_isWord_53 : decode cX5_isWord 53 = .ok (.ifCond .eq 59, 3) := by decide +kernel
theorem dX5_isWord_56 : decode cX5_isWord 56 = .ok (.aload_n 0, 1) := by decide +kernel
theorem dX5_isWord_57 : decode cX5_isWord 57 = .ok (.iconst 3, 1) := by decide +kernel
theorem dX5_isWord_58 : decode cX5_isWord 58 = .ok (.iload 4, 2) := by decide +kernel
theorem dX5_isWord_60 : decode cX5_isWord 60 = .ok (.invokevirtual 173, 3) := by decide +kernel
theorem dX5_isWord_63 : decode cX5_isWord 63 = .ok (.ifCond .eq 49, 3) := by decide +kernel
theorem dX5_isWord_66 : decode cX5_isWord 66 = .ok (.aload_n 0, 1) := by decide +kernel
theorem dX5_isWord_67 : decode cX5_isWord 67 = .ok (.iconst 4, 1) := by decide +kernel
theorem dX5_isWord_68 : decode cX5_isWord 68 = .ok (.iload 5, 2) := by decide +kernel
theorem dX5_isWord_70 : decode cX5_isWord 70 = .ok (.invokevirtual 173, 3) := by decide +kernel
theorem dX5_isWord_73 : decode cX5_isWord 73 = .ok (.ifCond .eq 39, 3) := by decide +kernel
theorem dX5_isWord_76 : decode cX5_isWord 76 = .ok (.aload_n 0, 1) := by decide +kernel
theorem dX5_isWord_77 : decode cX5_isWord 77 = .ok (.iconst 5, 1) := by decide +kernel
theorem dX5_isWord_78 : decode cX5_isWord 78 = .ok (.iload 6, 2) := by decide +kernel
theorem dX5_isWord_80 : decode cX5_isWord 80 = .ok (.invokevirtual 173, 3) := by decide +kernel
theorem dX5_isWord_83 : decode cX5_isWord 83 = .ok (.ifCond .eq 29, 3) := by decide +kernel
theorem dX5_isWord_86 : decode cX5_isWord 86 = .ok (.aload_n 0, 1) := by decide +kernel
theorem dX5_isWord_87 : decode cX5_isWord 87 = .ok (.bipush 6, 2) := by decide +kernel
theorem dX5_isWord_89 : decode cX5_isWord 89 = .ok (.iload 7, 2) := by decide +kernel
theorem dX5_isWord_91 : decode cX5_isWord 91 = .ok (.invokevirtual 173, 3) := by decide +kernel
theorem dX5_isWord_94 : decode cX5_isWord 94 = .ok (.ifCond .eq 18, 3) := by decide +kernel
theorem dX5_isWord_97 : decode cX5_isWord 97 = .ok (.aload_n 0, 1) := by decide +kernel
theorem dX5_isWord_98 : decode cX5_isWord 98 = .ok (.bipush 7, 2) := by decide +kernel
theorem dX5_isWord_100 : decode cX5_isWord 100 = .ok (.iload 8, 2) := by decide +kernel
theorem dX5_isWord_102 : decode cX5_isWord 102 = .ok (.invokevirtual 173, 3) := by decide +kernel
theorem dX5_isWord_105 : decode cX5_isWord 105 = .ok (.ifCond .eq 7, 3) := by decide +kernel
theorem dX5_isWord_108 : decode cX5_isWord 108 = .ok (.iconst 1, 1) := by decide +kernel
theorem dX5_isWord_109 : decode cX5_isWord 109 = .ok (.goto 4, 3) := by decide +kernel
theorem dX5_isWord_112 : decode cX5_isWord 112 = .ok (.iconst 0, 1) := by decide +kernel
theorem dX5_isWord_113 : decode cX5_isWord 113 = .ok (.ireturn, 1) := by decide +kernel
theorem dX5_isSign_0 : decode cX5_isSign 0 = .ok (.aload_n 0, 1) := by decide +kernel
theorem dX5_isSign_1 : decode cX5_isSign 1 = .ok (.getfield 166, 3) := by decide +kernel
theorem dX5_isSign_4 : decode cX5_isSign 4 = .ok (.ifCond .ne 25, 3) := by decide +kernel
theorem dX5_isSign_7 : decode cX5_isSign 7 = .ok (.aload_n 0, 1) := by decide +kernel
theorem dX5_isSign_8 : decode cX5_isSign 8 = .ok (.getfield 151, 3) := by decide +kernel
theorem dX5_isSign_11 : decode cX5_isSign 11 = .ok (.iconst 3, 1) := by decide +kernel
theorem dX5_isSign_12 : decode cX5_isSign 12 = .ok (.if_icmp .ne 17, 3) := by decide +kernel
theorem dX5_isSign_15 : decode cX5_isSign 15 = .ok (.aload_n 0, 1) := by decide +kernel
theorem dX5_isSign_16 : decode cX5_isSign 16 = .ok (.getfield 162, 3) := by decide +kernel
theorem dX5_isSign_19 : decode cX5_isSign 19 = .ok (.iload_n 1, 1) := by decide +kernel
theorem dX5_isSign_20 : decode cX5_isSign 20 = .ok (.i2l, 1) := by decide +kernel
theorem dX5_isSign_21 : decode cX5_isSign 21 = .ok (.lcmp, 1) := by decide +kernel
theorem dX5_isSign_22 : decode cX5_isSign 22 = .ok (.ifCond .ne 7, 3) := by decide +kernel
theorem dX5_isSign_25 : decode cX5_isSign 25 = .ok (.iconst 1, 1) := by decide +kernel
theorem dX5_isSign_26 : decode cX5_isSign 26 = .ok (.goto 4, 3) := by decide +kernel
theorem dX5_isSign_29 : decode cX5_isSign 29 = .ok (.iconst 0, 1) := by decide +kernel
theorem dX5_isSign_30 : decode cX5_isSign 30 = .ok (.ireturn, 1) := by decide +kernel
theorem dX5_opens_0 : decode cX5_opens 0 = .ok (.aload_n 0, 1) := by decide +kernel
theorem dX5_opens_1 : decode cX5_opens 1 = .ok (.getfield 175, 3) := by decide +kernel
theorem dX5_opens_4 : decode cX5_opens 4 = .ok (.iconst 5, 1) := by decide +kernel
theorem dX5_opens_5 : decode cX5_opens 5 = .ok (.if_icmp .ne 9, 3) := by decide +kernel
theorem dX5_opens_8 : decode cX5_opens 8 = .ok (.aload_n 0, 1) := by decide +kernel
theorem dX5_opens_9 : decode cX5_opens 9 = .ok (.invokevirtual 178, 3) := by decide +kernel
theorem dX5_opens_12 : decode cX5_opens 12 = .ok (.iconst 0, 1) := by decide +kernel
theorem dX5_opens_13 : decode cX5_opens 13 = .ok (.ireturn, 1) := by decide +kernel
theorem dX5_opens_14 : decode cX5_opens 14 = .ok (.aload_n 0, 1) := by decide +kernel
theorem dX5_opens_15 : decode cX5_opens 15 = .ok (.dup, 1) := by decide +kernel
theorem dX5_opens_16 : decode cX5_opens 16 = .ok (.getfield 175, 3) := by decide +kernel
theorem dX5_opens_19 : decode cX5_opens 19 = .ok (.iconst 1, 1) := by decide +kernel
theorem dX5_opens_20 : decode cX5_opens 20 = .ok (.iadd, 1) := by decide +kernel
theorem dX5_opens_21 : decode cX5_opens 21 = .ok (.putfield 175, 3) := by decide +kernel
theorem dX5_opens_24 : decode cX5_opens 24 = .ok (.aload_n 0, 1) := by decide +kernel
theorem dX5_opens_25 : decode cX5_opens 25 = .ok (.invokevirtual 181, 3) := by decide +kernel
theorem dX5_opens_28 : decode cX5_opens 28 = .ok (.iconst 1, 1) := by decide +kernel
theorem dX5_opens_29 : decode cX5_opens 29 = .ok (.ireturn, 1) := by decide +kernel
theorem dX5_name_0 : decode cX5_name 0 = .ok (.aload_n 0, 1) := by decide +kernel
theorem dX5_name_1 : decode cX5_name 1 = .ok (.bipush 116, 2) := by decide +kernel
theorem dX5_name_3 : decode cX5_name 3 = .ok (.bipush 111, 2) := by decide +kernel
theorem dX5_name_5 : decode cX5_name 5 = .ok (.bipush 110, 2) := by decide +kernel
theorem dX5_name_7 : decode cX5_name 7 = .ok (.bipush 101, 2) := by decide +kernel
theorem dX5_name_9 : decode cX5_name 9 = .ok (.iconst 0, 1) := by decide +kernel
theorem dX5_name_10 : decode cX5_name 10 = .ok (.iconst 0, 1) := by decide +kernel
theorem dX5_name_11 : decode cX5_name 11 = .ok (.iconst 0, 1) := by decide +kernel
theorem dX5_name_12 : decode cX5_name 12 = .ok (.iconst 0, 1) := by decide +kernel
theorem dX5_name_13 : decode cX5_name 13 = .ok (.invokevirtual 184, 3) := by decide +kernel
theorem dX5_name_16 : decode cX5_name 16 = .ok (.ifCond .eq 8, 3) := by decide +kernel
theorem dX5_name_19 : decode cX5_name 19 = .ok (.aload_n 0, 1) := by decide +kernel
theorem dX5_name_20 : decode cX5_name 20 = .ok (.getfield 188, 3) := by decide +kernel
theorem dX5_name_23 : decode cX5_name 23 = .ok (.ireturn, 1) := by decide +kernel
theorem dX5_name_24 : decode cX5_name 24 = .ok (.aload_n 0, 1) := by decide +kernel
theorem dX5_name_25 : decode cX5_name 25 = .ok (.bipush 104, 2) := by decide +kernel
theorem dX5_name_27 : decode cX5_name 27 = .ok (.bipush 111, 2) := by decide +kernel
theorem dX5_name_29 : decode cX5_name 29 = .ok (.bipush 117, 2) := by decide +kernel
theorem dX5_name_31 : decode cX5_name 31 = .ok (.bipush 115, 2) := by decide +kernel
theorem dX5_name_33 : decode cX5_name 33 = .ok (.bipush 101, 2) := by decide +kernel
theorem dX5_name_35 : decode cX5_name 35 = .ok (.iconst 0, 1) := by decide +kernel
theorem dX5_name_36 : decode cX5_name 36 = .ok (.iconst 0, 1) := by decide +kernel
theorem dX5_name_37 : decode cX5_name 37 = .ok (.iconst 0, 1) := by decide +kernel
theorem dX5_name_38 : decode cX5_name 38 = .ok (.invokevirtual 184, 3) := by decide +kernel
theorem dX5_name_41 : decode cX5_name 41 = .ok (.ifCond .eq 8, 3) := by decide +kernel
theorem dX5_name_44 : decode cX5_name 44 = .ok (.aload_n 0, 1) := by decide +kernel
theorem dX5_name_45 : decode cX5_name 45 = .ok (.getfield 191, 3) := by decide +kernel
theorem dX5_name_48 : decode cX5_name 48 = .ok (.ireturn, 1) := by decide +kernel
theorem dX5_name_49 : decode cX5_name 49 = .ok (.aload_n 0, 1) := by decide +kernel
theorem dX5_name_50 : decode cX5_name 50 = .ok (.bipush 110, 2) := by decide +kernel
theorem dX5_name_52 : decode cX5_name 52 = .ok (.bipush 117, 2) := by decide +kernel
theorem dX5_name_54 : decode cX5_name 54 = .ok (.bipush 109, 2) := by decide +kernel
theorem dX5_name_56 : decode cX5_name 56 = .ok (.bipush 98, 2) := by decide +kernel
theorem dX5_name_58 : decode cX5_name 58 = .ok (.bipush 101, 2) := by decide +kernel
theorem dX5_name_60 : decode cX5_name 60 = .ok (.bipush 114, 2) := by decide +kernel
theorem dX5_name_62 : decode cX5_name 62 = .ok (.iconst 0, 1) := by decide +kernel
theorem dX5_name_63 : decode cX5_name 63 = .ok (.iconst 0, 1) := by decide +kernel
theorem dX5_name_64 : decode cX5_name 64 = .ok (.invokevirtual 184, 3) := by decide +kernel
theorem dX5_name_67 : decode cX5_name 67 = .ok (.ifCond .eq 8, 3) := by decide +kernel
theorem dX5_name_70 : decode cX5_name 70 = .ok (.aload_n 0, 1) := by decide +kernel
theorem dX5_name_71 : decode cX5_name 71 = .ok (.getfield 194, 3) := by decide +kernel
theorem dX5_name_74 : decode cX5_name 74 = .ok (.ireturn, 1) := by decide +kernel
theorem dX5_name_75 : decode cX5_name 75 = .ok (.aload_n 0, 1) := by decide +kernel
theorem dX5_name_76 : decode cX5_name 76 = .ok (.bipush 100, 2) := by decide +kernel
theorem dX5_name_78 : decode cX5_name 78 = .ok (.bipush 97, 2) := by decide +kernel
theorem dX5_name_80 : decode cX5_name 80 = .ok (.bipush 121, 2) := by decide +kernel
theorem dX5_name_82 : decode cX5_name 82 = .ok (.iconst 0, 1) := by decide +kernel
theorem dX5_name_83 : decode cX5_name 83 = .ok (.iconst 0, 1) := by decide +kernel
theorem dX5_name_84 : decode cX5_name 84 = .ok (.iconst 0, 1) := by decide +kernel
theorem dX5_name_85 : decode cX5_name 85 = .ok (.iconst 0, 1) := by decide +kernel
theorem dX5_name_86 : decode cX5_name 86 = .ok (.iconst 0, 1) := by decide +kernel
theorem dX5_name_87 : decode cX5_name 87 = .ok (.invokevirtual 184, 3) := by decide +kernel
theorem dX5_name_90 : decode cX5_name 90 = .ok (.ifCond .eq 8, 3) := by decide +kernel
theorem dX5_name_93 : decode cX5_name 93 = .ok (.aload_n 0, 1) := by decide +kernel
theorem dX5_name_94 : decode cX5_name 94 = .ok (.getfield 197, 3) := by decide +kernel
theorem dX5_name_97 : decode cX5_name 97 = .ok (.ireturn, 1) := by decide +kernel
theorem dX5_name_98 : decode cX5_name 98 = .ok (.aload_n 0, 1) := by decide +kernel
theorem dX5_name_99 : decode cX5_name 99 = .ok (.bipush 114, 2) := by decide +kernel
theorem dX5_name_101 : decode cX5_name 101 = .ok (.bipush 101, 2) := by decide +kernel
theorem dX5_name_103 : decode cX5_name 103 = .ok (.bipush 97, 2) := by decide +kernel
theorem dX5_name_105 : decode cX5_name 105 = .ok (.bipush 100, 2) := by decide +kernel
theorem dX5_name_107 : decode cX5_name 107 = .ok (.iconst 0, 1) := by decide +kernel
theorem dX5_name_108 : decode cX5_name 108 = .ok (.iconst 0, 1) := by decide +kernel
theorem dX5_name_109 : decode cX5_name 109 = .ok (.iconst 0, 1) := by decide +kernel
theorem dX5_name_110 : decode cX5_name 110 = .ok (.iconst 0, 1) := by decide +kernel
theorem dX5_name_111 : decode cX5_name 111 = .ok (.invokevirtual 184, 3) := by decide +kernel
theorem dX5_name_114 : decode cX5_name 114 = .ok (.ifCond .eq 8, 3) := by decide +kernel
theorem dX5_name_117 : decode cX5_name 117 = .ok (.aload_n 0, 1) := by decide +kernel
theorem dX5_name_118 : decode cX5_name 118 = .ok (.getfield 200, 3) := by decide +kernel
theorem dX5_name_121 : decode cX5_name 121 = .ok (.ireturn, 1) := by decide +kernel
theorem dX5_name_122 : decode cX5_name 122 = .ok (.aload_n 0, 1) := by decide +kernel
theorem dX5_name_123 : decode cX5_name 123 = .ok (.bipush 109, 2) := by decide +kernel
theorem dX5_name_125 : decode cX5_name 125 = .ok (.bipush 105, 2) := by decide +kernel
theorem dX5_name_127 : decode cX5_name 127 = .ok (.bipush 110, 2) := by decide +kernel
theorem dX5_name_129 : decode cX5_name 129 = .ok (.bipush 101, 2) := by decide +kernel
theorem dX5_name_131 : decode cX5_name 131 = .ok (.iconst 0, 1) := by decide +kernel
theorem dX5_name_132 : decode cX5_name 132 = .ok (.iconst 0, 1) := by decide +kernel
theorem dX5_name_133 : decode cX5_name 133 = .ok (.iconst 0, 1) := by decide +kernel
theorem dX5_name_134 : decode cX5_name 134 = .ok (.iconst 0, 1) := by decide +kernel
theorem dX5_name_135 : decode cX5_name 135 = .ok (.invokevirtual 184, 3) := by decide +kernel
theorem dX5_name_138 : decode cX5_name 138 = .ok (.ifCond .eq 8, 3) := by decide +kernel
theorem dX5_name_141 : decode cX5_name 141 = .ok (.aload_n 0, 1) := by decide +kernel
theorem dX5_name_142 : decode cX5_name 142 = .ok (.getfield 203, 3) := by decide +kernel
theorem dX5_name_145 : decode cX5_name 145 = .ok (.ireturn, 1) := by decide +kernel
theorem dX5_name_146 : decode cX5_name 146 = .ok (.aload_n 0, 1) := by decide +kernel
theorem dX5_name_147 : decode cX5_name 147 = .ok (.invokevirtual 178, 3) := by decide +kernel
theorem dX5_name_150 : decode cX5_name 150 = .ok (.iconst 0, 1) := by decide +kernel
theorem dX5_name_151 : decode cX5_name 151 = .ok (.ireturn, 1) := by decide +kernel
theorem dX5_atom_0 : decode cX5_atom 0 = .ok (.iconst 0, 1) := by decide +kernel
theorem dX5_atom_1 : decode cX5_atom 1 = .ok (.istore_n 1, 1) := by decide +kernel
theorem dX5_atom_2 : decode cX5_atom 2 = .ok (.aload_n 0, 1) := by decide +kernel
theorem dX5_atom_3 : decode cX5_atom 3 = .ok (.bipush 45, 2) := by decide +kernel
theorem dX5_atom_5 : decode cX5_atom 5 = .ok (.invokevirtual 206, 3) := by decide +kernel
theorem dX5_atom_8 : decode cX5_atom 8 = .ok (.ifCond .eq 29, 3) := by decide +kernel
theorem dX5_atom_11 : decode cX5_atom 11 = .ok (.aload_n 0, 1) := by decide +kernel
theorem dX5_atom_12 : decode cX5_atom 12 = .ok (.invokevirtual 209, 3) := by decide +kernel
theorem dX5_atom_15 : decode cX5_atom 15 = .ok (.ifCond .eq 146, 3) := by decide +kernel
theorem dX5_atom_18 : decode cX5_atom 18 = .ok (.aload_n 0, 1) := by decide +kernel
theorem dX5_atom_19 : decode cX5_atom 19 = .ok (.invokevirtual 213, 3) := by decide +kernel
theorem dX5_atom_22 : decode cX5_atom 22 = .ok (.ineg, 1) := by decide +kernel
theorem dX5_atom_23 : decode cX5_atom 23 = .ok (.istore_n 1, 1) := by decide +kernel
theorem dX5_atom_24 : decode cX5_atom 24 = .ok (.aload_n 0, 1) := by decide +kernel
theorem dX5_atom_25 : decode cX5_atom 25 = .ok (.dup, 1) := by decide +kernel
theorem dX5_atom_26 : decode cX5_atom 26 = .ok (.getfield 175, 3) := by decide +kernel
theorem dX5_atom_29 : decode cX5_atom 29 = .ok (.iconst 1, 1) := by decide +kernel
theorem dX5_atom_30 : decode cX5_atom 30 = .ok (.isub, 1) := by decide +kernel
theorem dX5_atom_31 : decode cX5_atom 31 = .ok (.putfield 175, 3) := by decide +kernel
theorem dX5_atom_34 : decode cX5_atom 34 = .ok (.goto 127, 3) := by decide +kernel
theorem dX5_atom_37 : decode cX5_atom 37 = .ok (.aload_n 0, 1) := by decide +kernel
theorem dX5_atom_38 : decode cX5_atom 38 = .ok (.bipush 40, 2) := by decide +kernel
theorem dX5_atom_40 : decode cX5_atom 40 = .ok (.invokevirtual 206, 3) := by decide +kernel
theorem dX5_atom_43 : decode cX5_atom 43 = .ok (.ifCond .eq 52, 3) := by decide +kernel
theorem dX5_atom_46 : decode cX5_atom 46 = .ok (.aload_n 0, 1) := by decide +kernel
theorem dX5_atom_47 : decode cX5_atom 47 = .ok (.invokevirtual 209, 3) := by decide +kernel
theorem dX5_atom_50 : decode cX5_atom 50 = .ok (.ifCond .eq 111, 3) := by decide +kernel
theorem dX5_atom_53 : decode cX5_atom 53 = .ok (.aload_n 0, 1) := by decide +kernel
theorem dX5_atom_54 : decode cX5_atom 54 = .ok (.invokevirtual 217, 3) := by decide +kernel
theorem dX5_atom_57 : decode cX5_atom 57 = .ok (.istore_n 1, 1) := by decide +kernel
theorem dX5_atom_58 : decode cX5_atom 58 = .ok (.aload_n 0, 1) := by decide +kernel
theorem dX5_atom_59 : decode cX5_atom 59 = .ok (.bipush 41, 2) := by decide +kernel
theorem dX5_atom_61 : decode cX5_atom 61 = .ok (.invokevirtual 206, 3) := by decide +kernel
theorem dX5_atom_64 : decode cX5_atom 64 = .ok (.ifCond .ne 7, 3) := by decide +kernel
theorem dX5_atom_67 : decode cX5_atom 67 = .ok (.aload_n 0, 1) := by decide +kernel
theorem dX5_atom_68 : decode cX5_atom 68 = .ok (.invokevirtual 178, 3) := by decide +kernel
theorem dX5_atom_71 : decode cX5_atom 71 = .ok (.aload_n 0, 1) := by decide +kernel
theorem dX5_atom_72 : decode cX5_atom 72 = .ok (.dup, 1) := by decide +kernel
theorem dX5_atom_73 : decode cX5_atom 73 = .ok (.getfield 175, 3) := by decide +kernel
theorem dX5_atom_76 : decode cX5_atom 76 = .ok (.iconst 1, 1) := by decide +kernel
theorem dX5_atom_77 : decode cX5_atom 77 = .ok (.isub, 1) := by decide +kernel
theorem dX5_atom_78 : decode cX5_atom 78 = .ok (.putfield 175, 3) := by decide +kernel
theorem dX5_atom_81 : decode cX5_atom 81 = .ok (.aload_n 0, 1) := by decide +kernel
theorem dX5_atom_82 : decode cX5_atom 82 = .ok (.getfield 166, 3) := by decide +kernel
theorem dX5_atom_85 : decode cX5_atom 85 = .ok (.ifCond .ne 76, 3) := by decide +kernel
theorem dX5_atom_88 : decode cX5_atom 88 = .ok (.aload_n 0, 1) := by decide +kernel
theorem dX5_atom_89 : decode cX5_atom 89 = .ok (.invokevirtual 181, 3) := by decide +kernel
theorem dX5_atom_92 : decode cX5_atom 92 = .ok (.goto 69, 3) := by decide +kernel
theorem dX5_atom_95 : decode cX5_atom 95 = .ok (.aload_n 0, 1) := by decide +kernel
theorem dX5_atom_96 : decode cX5_atom 96 = .ok (.getfield 166, 3) := by decide +kernel
theorem dX5_atom_99 : decode cX5_atom 99 = .ok (.ifCond .ne 24, 3) := by decide +kernel
theorem dX5_atom_102 : decode cX5_atom 102 = .ok (.aload_n 0, 1) := by decide +kernel
theorem dX5_atom_103 : decode cX5_atom 103 = .ok (.getfield 151, 3) := by decide +kernel
theorem dX5_atom_106 : decode cX5_atom 106 = .ok (.iconst 2, 1) := by decide +kernel
theorem dX5_atom_107 : decode cX5_atom 107 = .ok (.if_icmp .ne 16, 3) := by decide +kernel
theorem dX5_atom_110 : decode cX5_atom 110 = .ok (.aload_n 0, 1) := by decide +kernel
theorem dX5_atom_111 : decode cX5_atom 111 = .ok (.getfield 162, 3) := by decide +kernel
theorem dX5_atom_114 : decode cX5_atom 114 = .ok (.l2i, 1) := by decide +kernel
theorem dX5_atom_115 : decode cX5_atom 115 = .ok (.istore_n 1, 1) := by decide +kernel
theorem dX5_atom_116 : decode cX5_atom 116 = .ok (.aload_n 0, 1) := by decide +kernel
theorem dX5_atom_117 : decode cX5_atom 117 = .ok (.invokevirtual 181, 3) := by decide +kernel
theorem dX5_atom_120 : decode cX5_atom 120 = .ok (.goto 41, 3) := by decide +kernel
theorem dX5_atom_123 : decode cX5_atom 123 = .ok (.aload_n 0, 1) := by decide +kernel
theorem dX5_atom_124 : decode cX5_atom 124 = .ok (.getfield 166, 3) := by decide +kernel
theorem dX5_atom_127 : decode cX5_atom 127 = .ok (.ifCond .ne 30, 3) := by decide +kernel
theorem dX5_atom_130 : decode cX5_atom 130 = .ok (.aload_n 0, 1) := by decide +kernel
theorem dX5_atom_131 : decode cX5_atom 131 = .ok (.getfield 151, 3) := by decide +kernel
theorem dX5_atom_134 : decode cX5_atom 134 = .ok (.iconst 1, 1) := by decide +kernel
theorem dX5_atom_135 : decode cX5_atom 135 = .ok (.if_icmp .ne 22, 3) := by decide +kernel
theorem dX5_atom_138 : decode cX5_atom 138 = .ok (.aload_n 0, 1) := by decide +kernel
theorem dX5_atom_139 : decode cX5_atom 139 = .ok (.invokevirtual 220, 3) := by decide +kernel
theorem dX5_atom_142 : decode cX5_atom 142 = .ok (.istore_n 1, 1) := by decide +kernel
theorem dX5_atom_143 : decode cX5_atom 143 = .ok (.aload_n 0, 1) := by decide +kernel
theorem dX5_atom_144 : decode cX5_atom 144 = .ok (.getfield 166, 3) := by decide +kernel
theorem dX5_atom_147 : decode cX5_atom 147 = .ok (.ifCond .ne 14, 3) := by decide +kernel
theorem dX5_atom_150 : decode cX5_atom 150 = .ok (.aload_n 0, 1) := by decide +kernel
theorem dX5_atom_151 : decode cX5_atom 151 = .ok (.invokevirtual 181, 3) := by decide +kernel
theorem dX5_atom_154 : decode cX5_atom 154 = .ok (.goto 7, 3) := by decide +kernel
theorem dX5_atom_157 : decode cX5_atom 157 = .ok (.aload_n 0, 1) := by decide +kernel
theorem dX5_atom_158 : decode cX5_atom 158 = .ok (.invokevirtual 178, 3) := by decide +kernel
theorem dX5_atom_161 : decode cX5_atom 161 = .ok (.iload_n 1, 1) := by decide +kernel
theorem dX5_atom_162 : decode cX5_atom 162 = .ok (.ireturn, 1) := by decide +kernel
theorem dX5_term_0 : decode cX5_term 0 = .ok (.aload_n 0, 1) := by decide +kernel
theorem dX5_term_1 : decode cX5_term 1 = .ok (.invokevirtual 213, 3) := by decide +kernel
theorem dX5_term_4 : decode cX5_term 4 = .ok (.istore_n 1, 1) := by decide +kernel
theorem dX5_term_5 : decode cX5_term 5 = .ok (.aload_n 0, 1) := by decide +kernel
theorem dX5_term_6 : decode cX5_term 6 = .ok (.bipush 42, 2) := by decide +kernel
theorem dX5_term_8 : decode cX5_term 8 = .ok (.invokevirtual 206, 3) := by decide +kernel
theorem dX5_term_11 : decode cX5_term 11 = .ok (.ifCond .eq 17, 3) := by decide +kernel
theorem dX5_term_14 : decode cX5_term 14 = .ok (.aload_n 0, 1) := by decide +kernel
theorem dX5_term_15 : decode cX5_term 15 = .ok (.invokevirtual 181, 3) := by decide +kernel
theorem dX5_term_18 : decode cX5_term 18 = .ok (.iload_n 1, 1) := by decide +kernel
theorem dX5_term_19 : decode cX5_term 19 = .ok (.aload_n 0, 1) := by decide +kernel
theorem dX5_term_20 : decode cX5_term 20 = .ok (.invokevirtual 213, 3) := by decide +kernel
theorem dX5_term_23 : decode cX5_term 23 = .ok (.imul, 1) := by decide +kernel
theorem dX5_term_24 : decode cX5_term 24 = .ok (.istore_n 1, 1) := by decide +kernel
theorem dX5_term_25 : decode cX5_term 25 = .ok (.goto (-20), 3) := by decide +kernel
theorem dX5_term_28 : decode cX5_term 28 = .ok (.iload_n 1, 1) := by decide +kernel
theorem dX5_term_29 : decode cX5_term 29 = .ok (.ireturn, 1) := by decide +kernel
theorem dX5_added_0 : decode cX5_added 0 = .ok (.aload_n 0, 1) := by decide +kernel
theorem dX5_added_1 : decode cX5_added 1 = .ok (.invokevirtual 223, 3) := by decide +kernel
theorem dX5_added_4 : decode cX5_added 4 = .ok (.istore_n 1, 1) := by decide +kernel
theorem dX5_added_5 : decode cX5_added 5 = .ok (.aload_n 0, 1) := by decide +kernel
theorem dX5_added_6 : decode cX5_added 6 = .ok (.bipush 43, 2) := by decide +kernel
theorem dX5_added_8 : decode cX5_added 8 = .ok (.invokevirtual 206, 3) := by decide +kernel
theorem dX5_added_11 : decode cX5_added 11 = .ok (.ifCond .ne 12, 3) := by decide +kernel
theorem dX5_added_14 : decode cX5_added 14 = .ok (.aload_n 0, 1) := by decide +kernel
theorem dX5_added_15 : decode cX5_added 15 = .ok (.bipush 45, 2) := by decide +kernel
theorem dX5_added_17 : decode cX5_added 17 = .ok (.invokevirtual 206, 3) := by decide +kernel
theorem dX5_added_20 : decode cX5_added 20 = .ok (.ifCond .eq 46, 3) := by decide +kernel
theorem dX5_added_23 : decode cX5_added 23 = .ok (.aload_n 0, 1) := by decide +kernel
theorem dX5_added_24 : decode cX5_added 24 = .ok (.getfield 162, 3) := by decide +kernel
theorem dX5_added_27 : decode cX5_added 27 = .ok (.ldc2_w 226, 3) := by decide +kernel
theorem dX5_added_30 : decode cX5_added 30 = .ok (.lcmp, 1) := by decide +kernel
theorem dX5_added_31 : decode cX5_added 31 = .ok (.ifCond .ne 7, 3) := by decide +kernel
theorem dX5_added_34 : decode cX5_added 34 = .ok (.iconst 1, 1) := by decide +kernel
theorem dX5_added_35 : decode cX5_added 35 = .ok (.goto 4, 3) := by decide +kernel
theorem dX5_added_38 : decode cX5_added 38 = .ok (.iconst 0, 1) := by decide +kernel
theorem dX5_added_39 : decode cX5_added 39 = .ok (.istore_n 2, 1) := by decide +kernel
theorem dX5_added_40 : decode cX5_added 40 = .ok (.aload_n 0, 1) := by decide +kernel
theorem dX5_added_41 : decode cX5_added 41 = .ok (.invokevirtual 181, 3) := by decide +kernel
theorem dX5_added_44 : decode cX5_added 44 = .ok (.aload_n 0, 1) := by decide +kernel
theorem dX5_added_45 : decode cX5_added 45 = .ok (.invokevirtual 223, 3) := by decide +kernel
theorem dX5_added_48 : decode cX5_added 48 = .ok (.istore_n 3, 1) := by decide +kernel
theorem dX5_added_49 : decode cX5_added 49 = .ok (.iload_n 2, 1) := by decide +kernel
theorem dX5_added_50 : decode cX5_added 50 = .ok (.ifCond .eq 9, 3) := by decide +kernel
theorem dX5_added_53 : decode cX5_added 53 = .ok (.iload_n 1, 1) := by decide +kernel
theorem dX5_added_54 : decode cX5_added 54 = .ok (.iload_n 3, 1) := by decide +kernel
theorem dX5_added_55 : decode cX5_added 55 = .ok (.iadd, 1) := by decide +kernel
theorem dX5_added_56 : decode cX5_added 56 = .ok (.goto 6, 3) := by decide +kernel
theorem dX5_added_59 : decode cX5_added 59 = .ok (.iload_n 1, 1) := by decide +kernel
theorem dX5_added_60 : decode cX5_added 60 = .ok (.iload_n 3, 1) := by decide +kernel
theorem dX5_added_61 : decode cX5_added 61 = .ok (.isub, 1) := by decide +kernel
theorem dX5_added_62 : decode cX5_added 62 = .ok (.istore_n 1, 1) := by decide +kernel
theorem dX5_added_63 : decode cX5_added 63 = .ok (.goto (-58), 3) := by decide +kernel
theorem dX5_added_66 : decode cX5_added 66 = .ok (.iload_n 1, 1) := by decide +kernel
theorem dX5_added_67 : decode cX5_added 67 = .ok (.ireturn, 1) := by decide +kernel
theorem dX5_not_0 : decode cX5_not 0 = .ok (.aload_n 0, 1) := by decide +kernel
theorem dX5_not_1 : decode cX5_not 1 = .ok (.bipush 110, 2) := by decide +kernel
theorem dX5_not_3 : decode cX5_not 3 = .ok (.bipush 111, 2) := by decide +kernel
theorem dX5_not_5 : decode cX5_not 5 = .ok (.bipush 116, 2) := by decide +kernel
theorem dX5_not_7 : decode cX5_not 7 = .ok (.iconst 0, 1) := by decide +kernel
theorem dX5_not_8 : decode cX5_not 8 = .ok (.iconst 0, 1) := by decide +kernel
theorem dX5_not_9 : decode cX5_not 9 = .ok (.iconst 0, 1) := by decide +kernel
theorem dX5_not_10 : decode cX5_not 10 = .ok (.iconst 0, 1) := by decide +kernel
theorem dX5_not_11 : decode cX5_not 11 = .ok (.iconst 0, 1) := by decide +kernel
theorem dX5_not_12 : decode cX5_not 12 = .ok (.invokevirtual 184, 3) := by decide +kernel
theorem dX5_not_15 : decode cX5_not 15 = .ok (.ifCond .eq 37, 3) := by decide +kernel
theorem dX5_not_18 : decode cX5_not 18 = .ok (.aload_n 0, 1) := by decide +kernel
theorem dX5_not_19 : decode cX5_not 19 = .ok (.invokevirtual 209, 3) := by decide +kernel
theorem dX5_not_22 : decode cX5_not 22 = .ok (.ifCond .ne 5, 3) := by decide +kernel
theorem dX5_not_25 : decode cX5_not 25 = .ok (.iconst 0, 1) := by decide +kernel
theorem dX5_not_26 : decode cX5_not 26 = .ok (.ireturn, 1) := by decide +kernel
theorem dX5_not_27 : decode cX5_not 27 = .ok (.aload_n 0, 1) := by decide +kernel
theorem dX5_not_28 : decode cX5_not 28 = .ok (.invokevirtual 228, 3) := by decide +kernel
theorem dX5_not_31 : decode cX5_not 31 = .ok (.istore_n 1, 1) := by decide +kernel
theorem dX5_not_32 : decode cX5_not 32 = .ok (.aload_n 0, 1) := by decide +kernel
theorem dX5_not_33 : decode cX5_not 33 = .ok (.dup, 1) := by decide +kernel
theorem dX5_not_34 : decode cX5_not 34 = .ok (.getfield 175, 3) := by decide +kernel
theorem dX5_not_37 : decode cX5_not 37 = .ok (.iconst 1, 1) := by decide +kernel
theorem dX5_not_38 : decode cX5_not 38 = .ok (.isub, 1) := by decide +kernel
theorem dX5_not_39 : decode cX5_not 39 = .ok (.putfield 175, 3) := by decide +kernel
theorem dX5_not_42 : decode cX5_not 42 = .ok (.iload_n 1, 1) := by decide +kernel
theorem dX5_not_43 : decode cX5_not 43 = .ok (.ifCond .ne 7, 3) := by decide +kernel
theorem dX5_not_46 : decode cX5_not 46 = .ok (.iconst 1, 1) := by decide +kernel
theorem dX5_not_47 : decode cX5_not 47 = .ok (.goto 4, 3) := by decide +kernel
theorem dX5_not_50 : decode cX5_not 50 = .ok (.iconst 0, 1) := by decide +kernel
theorem dX5_not_51 : decode cX5_not 51 = .ok (.ireturn, 1) := by decide +kernel
theorem dX5_not_52 : decode cX5_not 52 = .ok (.aload_n 0, 1) := by decide +kernel
theorem dX5_not_53 : decode cX5_not 53 = .ok (.invokevirtual 231, 3) := by decide +kernel
theorem dX5_not_56 : decode cX5_not 56 = .ok (.istore_n 1, 1) := by decide +kernel
theorem dX5_not_57 : decode cX5_not 57 = .ok (.aload_n 0, 1) := by decide +kernel
theorem dX5_not_58 : decode cX5_not 58 = .ok (.bipush 60, 2) := by decide +kernel
theorem dX5_not_60 : decode cX5_not 60 = .ok (.invokevirtual 206, 3) := by decide +kernel
theorem dX5_not_63 : decode cX5_not 63 = .ok (.ifCond .ne 14, 3) := by decide +kernel
theorem dX5_not_66 : decode cX5_not 66 = .ok (.aload_n 0, 1) := by decide +kernel
theorem dX5_not_67 : decode cX5_not 67 = .ok (.bipush 61, 2) := by decide +kernel
theorem dX5_not_69 : decode cX5_not 69 = .ok (.invokevirtual 206, 3) := by decide +kernel
theorem dX5_not_72 : decode cX5_not 72 = .ok (.ifCond .ne 5, 3) := by decide +kernel
theorem dX5_not_75 : decode cX5_not 75 = .ok (.iload_n 1, 1) := by decide +kernel
theorem dX5_not_76 : decode cX5_not 76 = .ok (.ireturn, 1) := by decide +kernel
theorem dX5_not_77 : decode cX5_not 77 = .ok (.aload_n 0, 1) := by decide +kernel
theorem dX5_not_78 : decode cX5_not 78 = .ok (.getfield 162, 3) := by decide +kernel
theorem dX5_not_81 : decode cX5_not 81 = .ok (.ldc2_w 234, 3) := by decide +kernel
theorem dX5_not_84 : decode cX5_not 84 = .ok (.lcmp, 1) := by decide +kernel
theorem dX5_not_85 : decode cX5_not 85 = .ok (.ifCond .ne 7, 3) := by decide +kernel
theorem dX5_not_88 : decode cX5_not 88 = .ok (.iconst 1, 1) := by decide +kernel
theorem dX5_not_89 : decode cX5_not 89 = .ok (.goto 4, 3) := by decide +kernel
theorem dX5_not_92 : decode cX5_not 92 = .ok (.iconst 0, 1) := by decide +kernel
theorem dX5_not_93 : decode cX5_not 93 = .ok (.istore_n 2, 1) := by decide +kernel
theorem dX5_not_94 : decode cX5_not 94 = .ok (.aload_n 0, 1) := by decide +kernel
theorem dX5_not_95 : decode cX5_not 95 = .ok (.invokevirtual 181, 3) := by decide +kernel
theorem dX5_not_98 : decode cX5_not 98 = .ok (.aload_n 0, 1) := by decide +kernel
theorem dX5_not_99 : decode cX5_not 99 = .ok (.invokevirtual 231, 3) := by decide +kernel
theorem dX5_not_102 : decode cX5_not 102 = .ok (.istore_n 3, 1) := by decide +kernel
theorem dX5_not_103 : decode cX5_not 103 = .ok (.iload_n 2, 1) := by decide +kernel
theorem dX5_not_104 : decode cX5_not 104 = .ok (.ifCond .eq 11, 3) := by decide +kernel
theorem dX5_not_107 : decode cX5_not 107 = .ok (.iload_n 1, 1) := by decide +kernel
theorem dX5_not_108 : decode cX5_not 108 = .ok (.iload_n 3, 1) := by decide +kernel
theorem dX5_not_109 : decode cX5_not 109 = .ok (.if_icmp .ge 15, 3) := by decide +kernel
theorem dX5_not_112 : decode cX5_not 112 = .ok (.goto 8, 3) := by decide +kernel
theorem dX5_not_115 : decode cX5_not 115 = .ok (.iload_n 1, 1) := by decide +kernel
theorem dX5_not_116 : decode cX5_not 116 = .ok (.iload_n 3, 1) := by decide +kernel
theorem dX5_not_117 : decode cX5_not 117 = .ok (.if_icmp .ne 7, 3) := by decide +kernel
theorem dX5_not_120 : decode cX5_not 120 = .ok (.iconst 1, 1) := by decide +kernel
theorem dX5_not_121 : decode cX5_not 121 = .ok (.goto 4, 3) := by decide +kernel
theorem dX5_not_124 : decode cX5_not 124 = .ok (.iconst 0, 1) := by decide +kernel
theorem dX5_not_125 : decode cX5_not 125 = .ok (.ireturn, 1) := by decide +kernel
theorem dX5_both_0 : decode cX5_both 0 = .ok (.aload_n 0, 1) := by decide +kernel
theorem dX5_both_1 : decode cX5_both 1 = .ok (.invokevirtual 228, 3) := by decide +kernel
theorem dX5_both_4 : decode cX5_both 4 = .ok (.istore_n 1, 1) := by decide +kernel
theorem dX5_both_5 : decode cX5_both 5 = .ok (.aload_n 0, 1) := by decide +kernel
theorem dX5_both_6 : decode cX5_both 6 = .ok (.bipush 97, 2) := by decide +kernel
theorem dX5_both_8 : decode cX5_both 8 = .ok (.bipush 110, 2) := by decide +kernel
theorem dX5_both_10 : decode cX5_both 10 = .ok (.bipush 100, 2) := by decide +kernel
theorem dX5_both_12 : decode cX5_both 12 = .ok (.iconst 0, 1) := by decide +kernel
theorem dX5_both_13 : decode cX5_both 13 = .ok (.iconst 0, 1) := by decide +kernel
theorem dX5_both_14 : decode cX5_both 14 = .ok (.iconst 0, 1) := by decide +kernel
theorem dX5_both_15 : decode cX5_both 15 = .ok (.iconst 0, 1) := by decide +kernel
theorem dX5_both_16 : decode cX5_both 16 = .ok (.iconst 0, 1) := by decide +kernel
theorem dX5_both_17 : decode cX5_both 17 = .ok (.invokevirtual 184, 3) := by decide +kernel
theorem dX5_both_20 : decode cX5_both 20 = .ok (.ifCond .eq 29, 3) := by decide +kernel
theorem dX5_both_23 : decode cX5_both 23 = .ok (.aload_n 0, 1) := by decide +kernel
theorem dX5_both_24 : decode cX5_both 24 = .ok (.invokevirtual 181, 3) := by decide +kernel
theorem dX5_both_27 : decode cX5_both 27 = .ok (.aload_n 0, 1) := by decide +kernel
theorem dX5_both_28 : decode cX5_both 28 = .ok (.invokevirtual 228, 3) := by decide +kernel
theorem dX5_both_31 : decode cX5_both 31 = .ok (.istore_n 2, 1) := by decide +kernel
theorem dX5_both_32 : decode cX5_both 32 = .ok (.iload_n 1, 1) := by decide +kernel
theorem dX5_both_33 : decode cX5_both 33 = .ok (.ifCond .eq 11, 3) := by decide +kernel
theorem dX5_both_36 : decode cX5_both 36 = .ok (.iload_n 2, 1) := by decide +kernel
theorem dX5_both_37 : decode cX5_both 37 = .ok (.ifCond .eq 7, 3) := by decide +kernel
theorem dX5_both_40 : decode cX5_both 40 = .ok (.iconst 1, 1) := by decide +kernel
theorem dX5_both_41 : decode cX5_both 41 = .ok (.goto 4, 3) := by decide +kernel
theorem dX5_both_44 : decode cX5_both 44 = .ok (.iconst 0, 1) := by decide +kernel
theorem dX5_both_45 : decode cX5_both 45 = .ok (.istore_n 1, 1) := by decide +kernel
theorem dX5_both_46 : decode cX5_both 46 = .ok (.goto (-41), 3) := by decide +kernel
theorem dX5_both_49 : decode cX5_both 49 = .ok (.iload_n 1, 1) := by decide +kernel
theorem dX5_both_50 : decode cX5_both 50 = .ok (.ireturn, 1) := by decide +kernel
theorem dX5_either_0 : decode cX5_either 0 = .ok (.aload_n 0, 1) := by decide +kernel
theorem dX5_either_1 : decode cX5_either 1 = .ok (.invokevirtual 236, 3) := by decide +kernel
theorem dX5_either_4 : decode cX5_either 4 = .ok (.istore_n 1, 1) := by decide +kernel
theorem dX5_either_5 : decode cX5_either 5 = .ok (.aload_n 0, 1) := by decide +kernel
theorem dX5_either_6 : decode cX5_either 6 = .ok (.bipush 111, 2) := by decide +kernel
theorem dX5_either_8 : decode cX5_either 8 = .ok (.bipush 114, 2) := by decide +kernel
theorem dX5_either_10 : decode cX5_either 10 = .ok (.iconst 0, 1) := by decide +kernel
theorem dX5_either_11 : decode cX5_either 11 = .ok (.iconst 0, 1) := by decide +kernel
theorem dX5_either_12 : decode cX5_either 12 = .ok (.iconst 0, 1) := by decide +kernel
theorem dX5_either_13 : decode cX5_either 13 = .ok (.iconst 0, 1) := by decide +kernel
theorem dX5_either_14 : decode cX5_either 14 = .ok (.iconst 0, 1) := by decide +kernel
theorem dX5_either_15 : decode cX5_either 15 = .ok (.iconst 0, 1) := by decide +kernel
theorem dX5_either_16 : decode cX5_either 16 = .ok (.invokevirtual 184, 3) := by decide +kernel
theorem dX5_either_19 : decode cX5_either 19 = .ok (.ifCond .eq 29, 3) := by decide +kernel
theorem dX5_either_22 : decode cX5_either 22 = .ok (.aload_n 0, 1) := by decide +kernel
theorem dX5_either_23 : decode cX5_either 23 = .ok (.invokevirtual 181, 3) := by decide +kernel
theorem dX5_either_26 : decode cX5_either 26 = .ok (.aload_n 0, 1) := by decide +kernel
theorem dX5_either_27 : decode cX5_either 27 = .ok (.invokevirtual 236, 3) := by decide +kernel
theorem dX5_either_30 : decode cX5_either 30 = .ok (.istore_n 2, 1) := by decide +kernel
theorem dX5_either_31 : decode cX5_either 31 = .ok (.iload_n 1, 1) := by decide +kernel
theorem dX5_either_32 : decode cX5_either 32 = .ok (.ifCond .ne 7, 3) := by decide +kernel
theorem dX5_either_35 : decode cX5_either 35 = .ok (.iload_n 2, 1) := by decide +kernel
theorem dX5_either_36 : decode cX5_either 36 = .ok (.ifCond .eq 7, 3) := by decide +kernel
theorem dX5_either_39 : decode cX5_either 39 = .ok (.iconst 1, 1) := by decide +kernel
theorem dX5_either_40 : decode cX5_either 40 = .ok (.goto 4, 3) := by decide +kernel
theorem dX5_either_43 : decode cX5_either 43 = .ok (.iconst 0, 1) := by decide +kernel
theorem dX5_either_44 : decode cX5_either 44 = .ok (.istore_n 1, 1) := by decide +kernel
theorem dX5_either_45 : decode cX5_either 45 = .ok (.goto (-40), 3) := by decide +kernel
theorem dX5_either_48 : decode cX5_either 48 = .ok (.iload_n 1, 1) := by decide +kernel
theorem dX5_either_49 : decode cX5_either 49 = .ok (.ireturn, 1) := by decide +kernel
theorem dX5_part_0 : decode cX5_part 0 = .ok (.iload_n 1, 1) := by decide +kernel
theorem dX5_part_1 : decode cX5_part 1 = .ok (.ifCond .ne 7, 3) := by decide +kernel
theorem dX5_part_4 : decode cX5_part 4 = .ok (.aload_n 0, 1) := by decide +kernel
theorem dX5_part_5 : decode cX5_part 5 = .ok (.invokevirtual 178, 3) := by decide +kernel
theorem dX5_part_8 : decode cX5_part 8 = .ok (.aload_n 0, 1) := by decide +kernel
theorem dX5_part_9 : decode cX5_part 9 = .ok (.getfield 166, 3) := by decide +kernel
theorem dX5_part_12 : decode cX5_part 12 = .ok (.ifCond .ne 7, 3) := by decide +kernel
theorem dX5_part_15 : decode cX5_part 15 = .ok (.aload_n 0, 1) := by decide +kernel
theorem dX5_part_16 : decode cX5_part 16 = .ok (.invokevirtual 181, 3) := by decide +kernel
theorem dX5_part_19 : decode cX5_part 19 = .ok (.aload_n 0, 1) := by decide +kernel
theorem dX5_part_20 : decode cX5_part 20 = .ok (.getfield 166, 3) := by decide +kernel
theorem dX5_part_23 : decode cX5_part 23 = .ok (.ifCond .eq 7, 3) := by decide +kernel
theorem dX5_part_26 : decode cX5_part 26 = .ok (.iconst 0, 1) := by decide +kernel
theorem dX5_part_27 : decode cX5_part 27 = .ok (.goto 7, 3) := by decide +kernel
theorem dX5_part_30 : decode cX5_part 30 = .ok (.aload_n 0, 1) := by decide +kernel
theorem dX5_part_31 : decode cX5_part 31 = .ok (.invokevirtual 217, 3) := by decide +kernel
theorem dX5_part_34 : decode cX5_part 34 = .ok (.istore_n 2, 1) := by decide +kernel
theorem dX5_part_35 : decode cX5_part 35 = .ok (.aload_n 0, 1) := by decide +kernel
theorem dX5_part_36 : decode cX5_part 36 = .ok (.bipush 59, 2) := by decide +kernel
theorem dX5_part_38 : decode cX5_part 38 = .ok (.invokevirtual 206, 3) := by decide +kernel
theorem dX5_part_41 : decode cX5_part 41 = .ok (.ifCond .ne 7, 3) := by decide +kernel
theorem dX5_part_44 : decode cX5_part 44 = .ok (.aload_n 0, 1) := by decide +kernel
theorem dX5_part_45 : decode cX5_part 45 = .ok (.invokevirtual 178, 3) := by decide +kernel
theorem dX5_part_48 : decode cX5_part 48 = .ok (.aload_n 0, 1) := by decide +kernel
theorem dX5_part_49 : decode cX5_part 49 = .ok (.getfield 166, 3) := by decide +kernel
theorem dX5_part_52 : decode cX5_part 52 = .ok (.ifCond .ne 7, 3) := by decide +kernel
theorem dX5_part_55 : decode cX5_part 55 = .ok (.aload_n 0, 1) := by decide +kernel
theorem dX5_part_56 : decode cX5_part 56 = .ok (.invokevirtual 181, 3) := by decide +kernel
theorem dX5_part_59 : decode cX5_part 59 = .ok (.iload_n 2, 1) := by decide +kernel
theorem dX5_part_60 : decode cX5_part 60 = .ok (.ireturn, 1) := by decide +kernel
theorem dX5_read_0 : decode cX5_read 0 = .ok (.aload_n 0, 1) := by decide +kernel
theorem dX5_read_1 : decode cX5_read 1 = .ok (.sipush 160, 3) := by decide +kernel
theorem dX5_read_4 : decode cX5_read 4 = .ok (.iload_n 1, 1) := by decide +kernel
theorem dX5_read_5 : decode cX5_read 5 = .ok (.imul, 1) := by decide +kernel
theorem dX5_read_6 : decode cX5_read 6 = .ok (.putfield 139, 3) := by decide +kernel
theorem dX5_read_9 : decode cX5_read 9 = .ok (.aload_n 0, 1) := by decide +kernel
theorem dX5_read_10 : decode cX5_read 10 = .ok (.aload_n 0, 1) := by decide +kernel
theorem dX5_read_11 : decode cX5_read 11 = .ok (.getfield 17, 3) := by decide +kernel
theorem dX5_read_14 : decode cX5_read 14 = .ok (.iload_n 1, 1) := by decide +kernel
theorem dX5_read_15 : decode cX5_read 15 = .ok (.iaload, 1) := by decide +kernel
theorem dX5_read_16 : decode cX5_read 16 = .ok (.putfield 136, 3) := by decide +kernel
theorem dX5_read_19 : decode cX5_read 19 = .ok (.aload_n 0, 1) := by decide +kernel
theorem dX5_read_20 : decode cX5_read 20 = .ok (.iconst 0, 1) := by decide +kernel
theorem dX5_read_21 : decode cX5_read 21 = .ok (.putfield 142, 3) := by decide +kernel
theorem dX5_read_24 : decode cX5_read 24 = .ok (.aload_n 0, 1) := by decide +kernel
theorem dX5_read_25 : decode cX5_read 25 = .ok (.iconst 0, 1) := by decide +kernel
theorem dX5_read_26 : decode cX5_read 26 = .ok (.putfield 175, 3) := by decide +kernel
theorem dX5_read_29 : decode cX5_read 29 = .ok (.aload_n 0, 1) := by decide +kernel
theorem dX5_read_30 : decode cX5_read 30 = .ok (.iconst 0, 1) := by decide +kernel
theorem dX5_read_31 : decode cX5_read 31 = .ok (.putfield 166, 3) := by decide +kernel
theorem dX5_read_34 : decode cX5_read 34 = .ok (.aload_n 0, 1) := by decide +kernel
theorem dX5_read_35 : decode cX5_read 35 = .ok (.invokevirtual 181, 3) := by decide +kernel
theorem dX5_read_38 : decode cX5_read 38 = .ok (.aload_n 0, 1) := by decide +kernel
theorem dX5_read_39 : decode cX5_read 39 = .ok (.aload_n 0, 1) := by decide +kernel
theorem dX5_read_40 : decode cX5_read 40 = .ok (.bipush 99, 2) := by decide +kernel
theorem dX5_read_42 : decode cX5_read 42 = .ok (.bipush 97, 2) := by decide +kernel
theorem dX5_read_44 : decode cX5_read 44 = .ok (.bipush 114, 2) := by decide +kernel
theorem dX5_read_46 : decode cX5_read 46 = .ok (.bipush 114, 2) := by decide +kernel
theorem dX5_read_48 : decode cX5_read 48 = .ok (.bipush 105, 2) := by decide +kernel
theorem dX5_read_50 : decode cX5_read 50 = .ok (.bipush 101, 2) := by decide +kernel
theorem dX5_read_52 : decode cX5_read 52 = .ok (.bipush 115, 2) := by decide +kernel
theorem dX5_read_54 : decode cX5_read 54 = .ok (.iconst 0, 1) := by decide +kernel
theorem dX5_read_55 : decode cX5_read 55 = .ok (.invokevirtual 184, 3) := by decide +kernel
theorem dX5_read_58 : decode cX5_read 58 = .ok (.invokevirtual 239, 3) := by decide +kernel
theorem dX5_read_61 : decode cX5_read 61 = .ok (.istore_n 3, 1) := by decide +kernel
theorem dX5_read_62 : decode cX5_read 62 = .ok (.aload_n 0, 1) := by decide +kernel
theorem dX5_read_63 : decode cX5_read 63 = .ok (.getfield 166, 3) := by decide +kernel
theorem dX5_read_66 : decode cX5_read 66 = .ok (.ifCond .eq 7, 3) := by decide +kernel
theorem dX5_read_69 : decode cX5_read 69 = .ok (.iconst 0, 1) := by decide +kernel
theorem dX5_read_70 : decode cX5_read 70 = .ok (.goto 26, 3) := by decide +kernel
theorem dX5_read_73 : decode cX5_read 73 = .ok (.aload_n 0, 1) := by decide +kernel
theorem dX5_read_74 : decode cX5_read 74 = .ok (.aload_n 0, 1) := by decide +kernel
theorem dX5_read_75 : decode cX5_read 75 = .ok (.bipush 115, 2) := by decide +kernel
theorem dX5_read_77 : decode cX5_read 77 = .ok (.bipush 111, 2) := by decide +kernel
theorem dX5_read_79 : decode cX5_read 79 = .ok (.bipush 102, 2) := by decide +kernel
theorem dX5_read_81 : decode cX5_read 81 = .ok (.bipush 116, 2) := by decide +kernel
theorem dX5_read_83 : decode cX5_read 83 = .ok (.bipush 101, 2) := by decide +kernel
theorem dX5_read_85 : decode cX5_read 85 = .ok (.bipush 110, 2) := by decide +kernel
theorem dX5_read_87 : decode cX5_read 87 = .ok (.bipush 115, 2) := by decide +kernel
theorem dX5_read_89 : decode cX5_read 89 = .ok (.iconst 0, 1) := by decide +kernel
theorem dX5_read_90 : decode cX5_read 90 = .ok (.invokevirtual 184, 3) := by decide +kernel
theorem dX5_read_93 : decode cX5_read 93 = .ok (.invokevirtual 239, 3) := by decide +kernel
theorem dX5_read_96 : decode cX5_read 96 = .ok (.istore 4, 2) := by decide +kernel
theorem dX5_read_98 : decode cX5_read 98 = .ok (.aload_n 0, 1) := by decide +kernel
theorem dX5_read_99 : decode cX5_read 99 = .ok (.getfield 166, 3) := by decide +kernel
theorem dX5_read_102 : decode cX5_read 102 = .ok (.ifCond .eq 7, 3) := by decide +kernel
theorem dX5_read_105 : decode cX5_read 105 = .ok (.iconst 0, 1) := by decide +kernel
theorem dX5_read_106 : decode cX5_read 106 = .ok (.goto 25, 3) := by decide +kernel
theorem dX5_read_109 : decode cX5_read 109 = .ok (.aload_n 0, 1) := by decide +kernel
theorem dX5_read_110 : decode cX5_read 110 = .ok (.aload_n 0, 1) := by decide +kernel
theorem dX5_read_111 : decode cX5_read 111 = .ok (.bipush 119, 2) := by decide +kernel
theorem dX5_read_113 : decode cX5_read 113 = .ok (.bipush 114, 2) := by decide +kernel
theorem dX5_read_115 : decode cX5_read 115 = .ok (.bipush 105, 2) := by decide +kernel
theorem dX5_read_117 : decode cX5_read 117 = .ok (.bipush 116, 2) := by decide +kernel
theorem dX5_read_119 : decode cX5_read 119 = .ok (.bipush 101, 2) := by decide +kernel
theorem dX5_read_121 : decode cX5_read 121 = .ok (.bipush 115, 2) := by decide +kernel
theorem dX5_read_123 : decode cX5_read 123 = .ok (.iconst 0, 1) := by decide +kernel
theorem dX5_read_124 : decode cX5_read 124 = .ok (.iconst 0, 1) := by decide +kernel
theorem dX5_read_125 : decode cX5_read 125 = .ok (.invokevirtual 184, 3) := by decide +kernel
theorem dX5_read_128 : decode cX5_read 128 = .ok (.invokevirtual 239, 3) := by decide +kernel
theorem dX5_read_131 : decode cX5_read 131 = .ok (.istore 5, 2) := by decide +kernel
theorem dX5_read_133 : decode cX5_read 133 = .ok (.aload_n 0, 1) := by decide +kernel
theorem dX5_read_134 : decode cX5_read 134 = .ok (.getfield 166, 3) := by decide +kernel
theorem dX5_read_137 : decode cX5_read 137 = .ok (.ifCond .ne 14, 3) := by decide +kernel
theorem dX5_read_140 : decode cX5_read 140 = .ok (.aload_n 0, 1) := by decide +kernel
theorem dX5_read_141 : decode cX5_read 141 = .ok (.getfield 151, 3) := by decide +kernel
theorem dX5_read_144 : decode cX5_read 144 = .ok (.ifCond .eq 7, 3) := by decide +kernel
theorem dX5_read_147 : decode cX5_read 147 = .ok (.aload_n 0, 1) := by decide +kernel
theorem dX5_read_148 : decode cX5_read 148 = .ok (.invokevirtual 178, 3) := by decide +kernel
theorem dX5_read_151 : decode cX5_read 151 = .ok (.iload_n 2, 1) := by decide +kernel
theorem dX5_read_152 : decode cX5_read 152 = .ok (.ifCond .ne 7, 3) := by decide +kernel
theorem dX5_read_155 : decode cX5_read 155 = .ok (.iload_n 3, 1) := by decide +kernel
theorem dX5_read_156 : decode cX5_read 156 = .ok (.goto 15, 3) := by decide +kernel
theorem dX5_read_159 : decode cX5_read 159 = .ok (.iload_n 2, 1) := by decide +kernel
theorem dX5_read_160 : decode cX5_read 160 = .ok (.iconst 1, 1) := by decide +kernel
theorem dX5_read_161 : decode cX5_read 161 = .ok (.if_icmp .ne 8, 3) := by decide +kernel
theorem dX5_read_164 : decode cX5_read 164 = .ok (.iload 4, 2) := by decide +kernel
theorem dX5_read_166 : decode cX5_read 166 = .ok (.goto 5, 3) := by decide +kernel
theorem dX5_read_169 : decode cX5_read 169 = .ok (.iload 5, 2) := by decide +kernel
theorem dX5_read_171 : decode cX5_read 171 = .ok (.ireturn, 1) := by decide +kernel
theorem dX5_text_0 : decode cX5_text 0 = .ok (.aload_n 0, 1) := by decide +kernel
theorem dX5_text_1 : decode cX5_text 1 = .ok (.getfield 70, 3) := by decide +kernel
theorem dX5_text_4 : decode cX5_text 4 = .ok (.bipush 6, 2) := by decide +kernel
theorem dX5_text_6 : decode cX5_text 6 = .ok (.if_icmp .ne 6, 3) := by decide +kernel
theorem dX5_text_9 : decode cX5_text 9 = .ok (.bipush (-4), 2) := by decide +kernel
theorem dX5_text_11 : decode cX5_text 11 = .ok (.ireturn, 1) := by decide +kernel
theorem dX5_text_12 : decode cX5_text 12 = .ok (.iconst 0, 1) := by decide +kernel
theorem dX5_text_13 : decode cX5_text 13 = .ok (.istore_n 1, 1) := by decide +kernel
theorem dX5_text_14 : decode cX5_text 14 = .ok (.iload_n 1, 1) := by decide +kernel
theorem dX5_text_15 : decode cX5_text 15 = .ok (.aload_n 0, 1) := by decide +kernel
theorem dX5_text_16 : decode cX5_text 16 = .ok (.getfield 133, 3) := by decide +kernel
theorem dX5_text_19 : decode cX5_text 19 = .ok (.if_icmp .ge 30, 3) := by decide +kernel
theorem dX5_text_22 : decode cX5_text 22 = .ok (.aload_n 0, 1) := by decide +kernel
theorem dX5_text_23 : decode cX5_text 23 = .ok (.getfield 13, 3) := by decide +kernel
theorem dX5_text_26 : decode cX5_text 26 = .ok (.sipush 160, 3) := by decide +kernel
theorem dX5_text_29 : decode cX5_text 29 = .ok (.aload_n 0, 1) := by decide +kernel
theorem dX5_text_30 : decode cX5_text 30 = .ok (.getfield 70, 3) := by decide +kernel
theorem dX5_text_33 : decode cX5_text 33 = .ok (.imul, 1) := by decide +kernel
theorem dX5_text_34 : decode cX5_text 34 = .ok (.iload_n 1, 1) := by decide +kernel
theorem dX5_text_35 : decode cX5_text 35 = .ok (.iadd, 1) := by decide +kernel
theorem dX5_text_36 : decode cX5_text 36 = .ok (.aload_n 0, 1) := by decide +kernel
theorem dX5_text_37 : decode cX5_text 37 = .ok (.getfield 20, 3) := by decide +kernel
theorem dX5_text_40 : decode cX5_text 40 = .ok (.iload_n 1, 1) := by decide +kernel
theorem dX5_text_41 : decode cX5_text 41 = .ok (.iaload, 1) := by decide +kernel
theorem dX5_text_42 : decode cX5_text 42 = .ok (.iastore, 1) := by decide +kernel
theorem dX5_text_43 : decode cX5_text 43 = .ok (.iinc 1 1, 3) := by decide +kernel
theorem dX5_text_46 : decode cX5_text 46 = .ok (.goto (-32), 3) := by decide +kernel
theorem dX5_text_49 : decode cX5_text 49 = .ok (.aload_n 0, 1) := by decide +kernel
theorem dX5_text_50 : decode cX5_text 50 = .ok (.getfield 17, 3) := by decide +kernel
theorem dX5_text_53 : decode cX5_text 53 = .ok (.aload_n 0, 1) := by decide +kernel
theorem dX5_text_54 : decode cX5_text 54 = .ok (.getfield 70, 3) := by decide +kernel
theorem dX5_text_57 : decode cX5_text 57 = .ok (.aload_n 0, 1) := by decide +kernel
theorem dX5_text_58 : decode cX5_text 58 = .ok (.getfield 133, 3) := by decide +kernel
theorem dX5_text_61 : decode cX5_text 61 = .ok (.iastore, 1) := by decide +kernel
theorem dX5_text_62 : decode cX5_text 62 = .ok (.aload_n 0, 1) := by decide +kernel
theorem dX5_text_63 : decode cX5_text 63 = .ok (.iconst 0, 1) := by decide +kernel
theorem dX5_text_64 : decode cX5_text 64 = .ok (.putfield 133, 3) := by decide +kernel
theorem dX5_text_67 : decode cX5_text 67 = .ok (.aload_n 0, 1) := by decide +kernel
theorem dX5_text_68 : decode cX5_text 68 = .ok (.aload_n 0, 1) := by decide +kernel
theorem dX5_text_69 : decode cX5_text 69 = .ok (.getfield 70, 3) := by decide +kernel
theorem dX5_text_72 : decode cX5_text 72 = .ok (.iconst 0, 1) := by decide +kernel
theorem dX5_text_73 : decode cX5_text 73 = .ok (.invokevirtual 243, 3) := by decide +kernel
theorem dX5_text_76 : decode cX5_text 76 = .ok (.istore_n 1, 1) := by decide +kernel
theorem dX5_text_77 : decode cX5_text 77 = .ok (.aload_n 0, 1) := by decide +kernel
theorem dX5_text_78 : decode cX5_text 78 = .ok (.getfield 166, 3) := by decide +kernel
theorem dX5_text_81 : decode cX5_text 81 = .ok (.ifCond .eq 11, 3) := by decide +kernel
theorem dX5_text_84 : decode cX5_text 84 = .ok (.bipush (-100), 2) := by decide +kernel
theorem dX5_text_86 : decode cX5_text 86 = .ok (.aload_n 0, 1) := by decide +kernel
theorem dX5_text_87 : decode cX5_text 87 = .ok (.getfield 170, 3) := by decide +kernel
theorem dX5_text_90 : decode cX5_text 90 = .ok (.isub, 1) := by decide +kernel
theorem dX5_text_91 : decode cX5_text 91 = .ok (.ireturn, 1) := by decide +kernel
theorem dX5_text_92 : decode cX5_text 92 = .ok (.aload_n 0, 1) := by decide +kernel
theorem dX5_text_93 : decode cX5_text 93 = .ok (.dup, 1) := by decide +kernel
theorem dX5_text_94 : decode cX5_text 94 = .ok (.getfield 70, 3) := by decide +kernel
theorem dX5_text_97 : decode cX5_text 97 = .ok (.iconst 1, 1) := by decide +kernel
theorem dX5_text_98 : decode cX5_text 98 = .ok (.iadd, 1) := by decide +kernel
theorem dX5_text_99 : decode cX5_text 99 = .ok (.putfield 70, 3) := by decide +kernel
theorem dX5_text_102 : decode cX5_text 102 = .ok (.aload_n 0, 1) := by decide +kernel
theorem dX5_text_103 : decode cX5_text 103 = .ok (.getfield 70, 3) := by decide +kernel
theorem dX5_text_106 : decode cX5_text 106 = .ok (.iconst 1, 1) := by decide +kernel
theorem dX5_text_107 : decode cX5_text 107 = .ok (.isub, 1) := by decide +kernel
theorem dX5_text_108 : decode cX5_text 108 = .ok (.ireturn, 1) := by decide +kernel
theorem dX5_force_0 : decode cX5_force 0 = .ok (.iload_n 1, 1) := by decide +kernel
theorem dX5_force_1 : decode cX5_force 1 = .ok (.i2l, 1) := by decide +kernel
theorem dX5_force_2 : decode cX5_force 2 = .ok (.lconst 0, 1) := by decide +kernel
theorem dX5_force_3 : decode cX5_force 3 = .ok (.aload_n 0, 1) := by decide +kernel
theorem dX5_force_4 : decode cX5_force 4 = .ok (.getfield 70, 3) := by decide +kernel
theorem dX5_force_7 : decode cX5_force 7 = .ok (.iconst 1, 1) := by decide +kernel
theorem dX5_force_8 : decode cX5_force 8 = .ok (.isub, 1) := by decide +kernel
theorem dX5_force_9 : decode cX5_force 9 = .ok (.i2l, 1) := by decide +kernel
theorem dX5_force_10 : decode cX5_force 10 = .ok (.invokestatic 76, 3) := by decide +kernel
theorem dX5_force_13 : decode cX5_force 13 = .ok (.ifCond .ne 6, 3) := by decide +kernel
theorem dX5_force_16 : decode cX5_force 16 = .ok (.bipush (-2), 2) := by decide +kernel
theorem dX5_force_18 : decode cX5_force 18 = .ok (.ireturn, 1) := by decide +kernel
theorem dX5_force_19 : decode cX5_force 19 = .ok (.aload_n 0, 1) := by decide +kernel
theorem dX5_force_20 : decode cX5_force 20 = .ok (.getfield 111, 3) := by decide +kernel
theorem dX5_force_23 : decode cX5_force 23 = .ok (.istore_n 2, 1) := by decide +kernel
theorem dX5_force_24 : decode cX5_force 24 = .ok (.aload_n 0, 1) := by decide +kernel
theorem dX5_force_25 : decode cX5_force 25 = .ok (.iload_n 1, 1) := by decide +kernel
theorem dX5_force_26 : decode cX5_force 26 = .ok (.putfield 111, 3) := by decide +kernel
theorem dX5_force_29 : decode cX5_force 29 = .ok (.iload_n 2, 1) := by decide +kernel
theorem dX5_force_30 : decode cX5_force 30 = .ok (.ireturn, 1) := by decide +kernel
theorem dX5_says_0 : decode cX5_says 0 = .ok (.aload_n 0, 1) := by decide +kernel
theorem dX5_says_1 : decode cX5_says 1 = .ok (.iload_n 3, 1) := by decide +kernel
theorem dX5_says_2 : decode cX5_says 2 = .ok (.iconst (-1), 1) := by decide +kernel
theorem dX5_says_3 : decode cX5_says 3 = .ok (.if_icmp .ne 7, 3) := by decide +kernel
theorem dX5_says_6 : decode cX5_says 6 = .ok (.iconst 0, 1) := by decide +kernel
theorem dX5_says_7 : decode cX5_says 7 = .ok (.goto 11, 3) := by decide +kernel
theorem dX5_says_10 : decode cX5_says 10 = .ok (.aload_n 0, 1) := by decide +kernel
theorem dX5_says_11 : decode cX5_says 11 = .ok (.getfield 29, 3) := by decide +kernel
theorem dX5_says_14 : decode cX5_says 14 = .ok (.iconst 5, 1) := by decide +kernel
theorem dX5_says_15 : decode cX5_says 15 = .ok (.iload_n 3, 1) := by decide +kernel
theorem dX5_says_16 : decode cX5_says 16 = .ok (.imul, 1) := by decide +kernel
theorem dX5_says_17 : decode cX5_says 17 = .ok (.iaload, 1) := by decide +kernel
theorem dX5_says_18 : decode cX5_says 18 = .ok (.putfield 188, 3) := by decide +kernel
theorem dX5_says_21 : decode cX5_says 21 = .ok (.aload_n 0, 1) := by decide +kernel
theorem dX5_says_22 : decode cX5_says 22 = .ok (.aload_n 0, 1) := by decide +kernel
theorem dX5_says_23 : decode cX5_says 23 = .ok (.getfield 26, 3) := by decide +kernel
theorem dX5_says_26 : decode cX5_says 26 = .ok (.iconst 3, 1) := by decide +kernel
theorem dX5_says_27 : decode cX5_says 27 = .ok (.iload_n 2, 1) := by decide +kernel
theorem dX5_says_28 : decode cX5_says 28 = .ok (.imul, 1) := by decide +kernel
theorem dX5_says_29 : decode cX5_says 29 = .ok (.iconst 2, 1) := by decide +kernel
theorem dX5_says_30 : decode cX5_says 30 = .ok (.iadd, 1) := by decide +kernel
theorem dX5_says_31 : decode cX5_says 31 = .ok (.iaload, 1) := by decide +kernel
theorem dX5_says_32 : decode cX5_says 32 = .ok (.putfield 191, 3) := by decide +kernel
theorem dX5_says_35 : decode cX5_says 35 = .ok (.aload_n 0, 1) := by decide +kernel
theorem dX5_says_36 : decode cX5_says 36 = .ok (.aload_n 0, 1) := by decide +kernel
theorem dX5_says_37 : decode cX5_says 37 = .ok (.getfield 26, 3) := by decide +kernel
theorem dX5_says_40 : decode cX5_says 40 = .ok (.iconst 3, 1) := by decide +kernel
theorem dX5_says_41 : decode cX5_says 41 = .ok (.iload_n 2, 1) := by decide +kernel
theorem dX5_says_42 : decode cX5_says 42 = .ok (.imul, 1) := by decide +kernel
theorem dX5_says_43 : decode cX5_says 43 = .ok (.iaload, 1) := by decide +kernel
theorem dX5_says_44 : decode cX5_says 44 = .ok (.putfield 194, 3) := by decide +kernel
theorem dX5_says_47 : decode cX5_says 47 = .ok (.aload_n 0, 1) := by decide +kernel
theorem dX5_says_48 : decode cX5_says 48 = .ok (.aload_n 0, 1) := by decide +kernel
theorem dX5_says_49 : decode cX5_says 49 = .ok (.getfield 108, 3) := by decide +kernel
theorem dX5_says_52 : decode cX5_says 52 = .ok (.putfield 197, 3) := by decide +kernel
theorem dX5_says_55 : decode cX5_says 55 = .ok (.aload_n 0, 1) := by decide +kernel
theorem dX5_says_56 : decode cX5_says 56 = .ok (.iload_n 3, 1) := by decide +kernel
theorem dX5_says_57 : decode cX5_says 57 = .ok (.iconst (-1), 1) := by decide +kernel
theorem dX5_says_58 : decode cX5_says 58 = .ok (.if_icmp .ne 7, 3) := by decide +kernel
theorem dX5_says_61 : decode cX5_says 61 = .ok (.iconst 0, 1) := by decide +kernel
theorem dX5_says_62 : decode cX5_says 62 = .ok (.goto 16, 3) := by decide +kernel
theorem dX5_says_65 : decode cX5_says 65 = .ok (.aload_n 0, 1) := by decide +kernel
theorem dX5_says_66 : decode cX5_says 66 = .ok (.getfield 29, 3) := by decide +kernel
theorem dX5_says_69 : decode cX5_says 69 = .ok (.iconst 5, 1) := by decide +kernel
theorem dX5_says_70 : decode cX5_says 70 = .ok (.iload_n 3, 1) := by decide +kernel
theorem dX5_says_71 : decode cX5_says 71 = .ok (.imul, 1) := by decide +kernel
theorem dX5_says_72 : decode cX5_says 72 = .ok (.iconst 4, 1) := by decide +kernel
theorem dX5_says_73 : decode cX5_says 73 = .ok (.iadd, 1) := by decide +kernel
theorem dX5_says_74 : decode cX5_says 74 = .ok (.iaload, 1) := by decide +kernel
theorem dX5_says_75 : decode cX5_says 75 = .ok (.invokestatic 246, 3) := by decide +kernel
theorem dX5_says_78 : decode cX5_says 78 = .ok (.putfield 200, 3) := by decide +kernel
theorem dX5_says_81 : decode cX5_says 81 = .ok (.aload_n 0, 1) := by decide +kernel
theorem dX5_says_82 : decode cX5_says 82 = .ok (.iload_n 3, 1) := by decide +kernel
theorem dX5_says_83 : decode cX5_says 83 = .ok (.iconst (-1), 1) := by decide +kernel
theorem dX5_says_84 : decode cX5_says 84 = .ok (.if_icmp .eq 21, 3) := by decide +kernel
theorem dX5_says_87 : decode cX5_says 87 = .ok (.aload_n 0, 1) := by decide +kernel
theorem dX5_says_88 : decode cX5_says 88 = .ok (.getfield 29, 3) := by decide +kernel
theorem dX5_says_91 : decode cX5_says 91 = .ok (.iconst 5, 1) := by decide +kernel
theorem dX5_says_92 : decode cX5_says 92 = .ok (.iload_n 3, 1) := by decide +kernel
theorem dX5_says_93 : decode cX5_says 93 = .ok (.imul, 1) := by decide +kernel
theorem dX5_says_94 : decode cX5_says 94 = .ok (.iconst 1, 1) := by decide +kernel
theorem dX5_says_95 : decode cX5_says 95 = .ok (.iadd, 1) := by decide +kernel
theorem dX5_says_96 : decode cX5_says 96 = .ok (.iaload, 1) := by decide +kernel
theorem dX5_says_97 : decode cX5_says 97 = .ok (.iload_n 2, 1) := by decide +kernel
theorem dX5_says_98 : decode cX5_says 98 = .ok (.if_icmp .ne 7, 3) := by decide +kernel
theorem dX5_says_101 : decode cX5_says 101 = .ok (.iconst 1, 1) := by decide +kernel
theorem dX5_says_102 : decode cX5_says 102 = .ok (.goto 4, 3) := by decide +kernel
theorem dX5_says_105 : decode cX5_says 105 = .ok (.iconst 0, 1) := by decide +kernel
theorem dX5_says_106 : decode cX5_says 106 = .ok (.putfield 203, 3) := by decide +kernel
theorem dX5_says_109 : decode cX5_says 109 = .ok (.aload_n 0, 1) := by decide +kernel
theorem dX5_says_110 : decode cX5_says 110 = .ok (.aload_n 0, 1) := by decide +kernel
theorem dX5_says_111 : decode cX5_says 111 = .ok (.getfield 111, 3) := by decide +kernel
theorem dX5_says_114 : decode cX5_says 114 = .ok (.iload_n 1, 1) := by decide +kernel
theorem dX5_says_115 : decode cX5_says 115 = .ok (.invokevirtual 243, 3) := by decide +kernel
theorem dX5_says_118 : decode cX5_says 118 = .ok (.iload_n 1, 1) := by decide +kernel
theorem dX5_says_119 : decode cX5_says 119 = .ok (.iconst 2, 1) := by decide +kernel
theorem dX5_says_120 : decode cX5_says 120 = .ok (.if_icmp .ne 7, 3) := by decide +kernel
theorem dX5_says_123 : decode cX5_says 123 = .ok (.iconst 0, 1) := by decide +kernel
theorem dX5_says_124 : decode cX5_says 124 = .ok (.goto 5, 3) := by decide +kernel
theorem dX5_says_127 : decode cX5_says 127 = .ok (.bipush (-99), 2) := by decide +kernel
theorem dX5_says_129 : decode cX5_says 129 = .ok (.bipush 99, 2) := by decide +kernel
theorem dX5_says_131 : decode cX5_says 131 = .ok (.invokestatic 249, 3) := by decide +kernel
theorem dX5_says_134 : decode cX5_says 134 = .ok (.ireturn, 1) := by decide +kernel
theorem dX5_carries_0 : decode cX5_carries 0 = .ok (.aload_n 0, 1) := by decide +kernel
theorem dX5_carries_1 : decode cX5_carries 1 = .ok (.getfield 26, 3) := by decide +kernel
theorem dX5_carries_4 : decode cX5_carries 4 = .ok (.iconst 3, 1) := by decide +kernel
theorem dX5_carries_5 : decode cX5_carries 5 = .ok (.iload_n 1, 1) := by decide +kernel
theorem dX5_carries_6 : decode cX5_carries 6 = .ok (.imul, 1) := by decide +kernel
theorem dX5_carries_7 : decode cX5_carries 7 = .ok (.iconst 1, 1) := by decide +kernel
theorem dX5_carries_8 : decode cX5_carries 8 = .ok (.iadd, 1) := by decide +kernel
theorem dX5_carries_9 : decode cX5_carries 9 = .ok (.iaload, 1) := by decide +kernel
theorem dX5_carries_10 : decode cX5_carries 10 = .ok (.istore_n 3, 1) := by decide +kernel
theorem dX5_carries_11 : decode cX5_carries 11 = .ok (.aload_n 0, 1) := by decide +kernel
theorem dX5_carries_12 : decode cX5_carries 12 = .ok (.getfield 253, 3) := by decide +kernel
theorem dX5_carries_15 : decode cX5_carries 15 = .ok (.iload_n 1, 1) := by decide +kernel
theorem dX5_carries_16 : decode cX5_carries 16 = .ok (.ishr, 1) := by decide +kernel
theorem dX5_carries_17 : decode cX5_carries 17 = .ok (.iconst 1, 1) := by decide +kernel
theorem dX5_carries_18 : decode cX5_carries 18 = .ok (.iand, 1) := by decide +kernel
theorem dX5_carries_19 : decode cX5_carries 19 = .ok (.iconst 1, 1) := by decide +kernel
theorem dX5_carries_20 : decode cX5_carries 20 = .ok (.if_icmp .eq 43, 3) := by decide +kernel
theorem dX5_carries_23 : decode cX5_carries 23 = .ok (.iload_n 3, 1) := by decide +kernel
theorem dX5_carries_24 : decode cX5_carries 24 = .ok (.iconst 4, 1) := by decide +kernel
theorem dX5_carries_25 : decode cX5_carries 25 = .ok (.if_icmp .ne 15, 3) := by decide +kernel
theorem dX5_carries_28 : decode cX5_carries 28 = .ok (.aload_n 0, 1) := by decide +kernel
theorem dX5_carries_29 : decode cX5_carries 29 = .ok (.getfield 26, 3) := by decide +kernel
theorem dX5_carries_32 : decode cX5_carries 32 = .ok (.iconst 3, 1) := by decide +kernel
theorem dX5_carries_33 : decode cX5_carries 33 = .ok (.iload_n 1, 1) := by decide +kernel
theorem dX5_carries_34 : decode cX5_carries 34 = .ok (.imul, 1) := by decide +kernel
theorem dX5_carries_35 : decode cX5_carries 35 = .ok (.iaload, 1) := by decide +kernel
theorem dX5_carries_36 : decode cX5_carries 36 = .ok (.iconst 4, 1) := by decide +kernel
theorem dX5_carries_37 : decode cX5_carries 37 = .ok (.if_icmp .gt 26, 3) := by decide +kernel
theorem dX5_carries_40 : decode cX5_carries 40 = .ok (.iload_n 3, 1) := by decide +kernel
theorem dX5_carries_41 : decode cX5_carries 41 = .ok (.iconst 3, 1) := by decide +kernel
theorem dX5_carries_42 : decode cX5_carries 42 = .ok (.if_icmp .ne 23, 3) := by decide +kernel
theorem dX5_carries_45 : decode cX5_carries 45 = .ok (.aload_n 0, 1) := by decide +kernel
theorem dX5_carries_46 : decode cX5_carries 46 = .ok (.getfield 108, 3) := by decide +kernel
theorem dX5_carries_49 : decode cX5_carries 49 = .ok (.bipush 7, 2) := by decide +kernel
theorem dX5_carries_51 : decode cX5_carries 51 = .ok (.irem, 1) := by decide +kernel
theorem dX5_carries_52 : decode cX5_carries 52 = .ok (.aload_n 0, 1) := by decide +kernel
theorem dX5_carries_53 : decode cX5_carries 53 = .ok (.getfield 26, 3) := by decide +kernel
theorem dX5_carries_56 : decode cX5_carries 56 = .ok (.iconst 3, 1) := by decide +kernel
theorem dX5_carries_57 : decode cX5_carries 57 = .ok (.iload_n 1, 1) := by decide +kernel
theorem dX5_carries_58 : decode cX5_carries 58 = .ok (.imul, 1) := by decide +kernel
theorem dX5_carries_59 : decode cX5_carries 59 = .ok (.iaload, 1) := by decide +kernel
theorem dX5_carries_60 : decode cX5_carries 60 = .ok (.if_icmp .ne 5, 3) := by decide +kernel
theorem dX5_carries_63 : decode cX5_carries 63 = .ok (.iconst 0, 1) := by decide +kernel
theorem dX5_carries_64 : decode cX5_carries 64 = .ok (.ireturn, 1) := by decide +kernel
theorem dX5_carries_65 : decode cX5_carries 65 = .ok (.aload_n 0, 1) := by decide +kernel
theorem dX5_carries_66 : decode cX5_carries 66 = .ok (.iconst 0, 1) := by decide +kernel
theorem dX5_carries_67 : decode cX5_carries 67 = .ok (.iload_n 1, 1) := by decide +kernel
theorem dX5_carries_68 : decode cX5_carries 68 = .ok (.iload_n 2, 1) := by decide +kernel
theorem dX5_carries_69 : decode cX5_carries 69 = .ok (.invokevirtual 256, 3) := by decide +kernel
theorem dX5_carries_72 : decode cX5_carries 72 = .ok (.ifCond .eq 7, 3) := by decide +kernel
theorem dX5_carries_75 : decode cX5_carries 75 = .ok (.iconst 1, 1) := by decide +kernel
theorem dX5_carries_76 : decode cX5_carries 76 = .ok (.goto 4, 3) := by decide +kernel
theorem dX5_carries_79 : decode cX5_carries 79 = .ok (.iconst 0, 1) := by decide +kernel
theorem dX5_carries_80 : decode cX5_carries 80 = .ok (.istore 4, 2) := by decide +kernel
theorem dX5_carries_82 : decode cX5_carries 82 = .ok (.iload 4, 2) := by decide +kernel
theorem dX5_carries_84 : decode cX5_carries 84 = .ok (.ifCond .eq 21, 3) := by decide +kernel
theorem dX5_carries_87 : decode cX5_carries 87 = .ok (.aload_n 0, 1) := by decide +kernel
theorem dX5_carries_88 : decode cX5_carries 88 = .ok (.getfield 29, 3) := by decide +kernel
theorem dX5_carries_91 : decode cX5_carries 91 = .ok (.iconst 5, 1) := by decide +kernel
theorem dX5_carries_92 : decode cX5_carries 92 = .ok (.iload_n 2, 1) := by decide +kernel
theorem dX5_carries_93 : decode cX5_carries 93 = .ok (.imul, 1) := by decide +kernel
theorem dX5_carries_94 : decode cX5_carries 94 = .ok (.iconst 1, 1) := by decide +kernel
theorem dX5_carries_95 : decode cX5_carries 95 = .ok (.iadd, 1) := by decide +kernel
theorem dX5_carries_96 : decode cX5_carries 96 = .ok (.iaload, 1) := by decide +kernel
theorem dX5_carries_97 : decode cX5_carries 97 = .ok (.iload_n 1, 1) := by decide +kernel
theorem dX5_carries_98 : decode cX5_carries 98 = .ok (.if_icmp .eq 7, 3) := by decide +kernel
theorem dX5_carries_101 : decode cX5_carries 101 = .ok (.iconst 1, 1) := by decide +kernel
theorem dX5_carries_102 : decode cX5_carries 102 = .ok (.goto 4, 3) := by decide +kernel
theorem dX5_carries_105 : decode cX5_carries 105 = .ok (.iconst 0, 1) := by decide +kernel
theorem dX5_carries_106 : decode cX5_carries 106 = .ok (.istore 5, 2) := by decide +kernel
theorem dX5_carries_108 : decode cX5_carries 108 = .ok (.iload_n 3, 1) := by decide +kernel
theorem dX5_carries_109 : decode cX5_carries 109 = .ok (.iconst 5, 1) := by decide +kernel
theorem dX5_carries_110 : decode cX5_carries 110 = .ok (.if_icmp .eq 51, 3) := by decide +kernel
theorem dX5_carries_113 : decode cX5_carries 113 = .ok (.iload_n 3, 1) := by decide +kernel
theorem dX5_carries_114 : decode cX5_carries 114 = .ok (.iconst 2, 1) := by decide +kernel
theorem dX5_carries_115 : decode cX5_carries 115 = .ok (.if_icmp .eq 8, 3) := by decide +kernel
theorem dX5_carries_118 : decode cX5_carries 118 = .ok (.iload_n 3, 1) := by decide +kernel
theorem dX5_carries_119 : decode cX5_carries 119 = .ok (.iconst 4, 1) := by decide +kernel
theorem dX5_carries_120 : decode cX5_carries 120 = .ok (.if_icmp .ne 11, 3) := by decide +kernel
theorem dX5_carries_123 : decode cX5_carries 123 = .ok (.iload 5, 2) := by decide +kernel
theorem dX5_carries_125 : decode cX5_carries 125 = .ok (.ifCond .eq 40, 3) := by decide +kernel
theorem dX5_carries_128 : decode cX5_carries 128 = .ok (.goto 33, 3) := by decide +kernel
theorem dX5_carries_131 : decode cX5_carries 131 = .ok (.iload_n 3, 1) := by decide +kernel
theorem dX5_carries_132 : decode cX5_carries 132 = .ok (.ifCond .ne 11, 3) := by decide +kernel
theorem dX5_carries_135 : decode cX5_carries 135 = .ok (.iload 4, 2) := by decide +kernel
theorem dX5_carries_137 : decode cX5_carries 137 = .ok (.ifCond .eq 28, 3) := by decide +kernel
theorem dX5_carries_140 : decode cX5_carries 140 = .ok (.goto 21, 3) := by decide +kernel
theorem dX5_carries_143 : decode cX5_carries 143 = .ok (.iload 4, 2) := by decide +kernel
theorem dX5_carries_145 : decode cX5_carries 145 = .ok (.ifCond .ne 16, 3) := by decide +kernel
theorem dX5_carries_148 : decode cX5_carries 148 = .ok (.aload_n 0, 1) := by decide +kernel
theorem dX5_carries_149 : decode cX5_carries 149 = .ok (.getfield 29, 3) := by decide +kernel
theorem dX5_carries_152 : decode cX5_carries 152 = .ok (.iconst 5, 1) := by decide +kernel
theorem dX5_carries_153 : decode cX5_carries 153 = .ok (.iload_n 2, 1) := by decide +kernel
theorem dX5_carries_154 : decode cX5_carries 154 = .ok (.imul, 1) := by decide +kernel
theorem dX5_carries_155 : decode cX5_carries 155 = .ok (.iaload, 1) := by decide +kernel
theorem dX5_carries_156 : decode cX5_carries 156 = .ok (.bipush 49, 2) := by decide +kernel
theorem dX5_carries_158 : decode cX5_carries 158 = .ok (.if_icmp .le 7, 3) := by decide +kernel
theorem dX5_carries_161 : decode cX5_carries 161 = .ok (.iconst 1, 1) := by decide +kernel
theorem dX5_carries_162 : decode cX5_carries 162 = .ok (.goto 4, 3) := by decide +kernel
theorem dX5_carries_165 : decode cX5_carries 165 = .ok (.iconst 0, 1) := by decide +kernel
theorem dX5_carries_166 : decode cX5_carries 166 = .ok (.ireturn, 1) := by decide +kernel
theorem dX5_softens_0 : decode cX5_softens 0 = .ok (.aload_n 0, 1) := by decide +kernel
theorem dX5_softens_1 : decode cX5_softens 1 = .ok (.getfield 26, 3) := by decide +kernel
theorem dX5_softens_4 : decode cX5_softens 4 = .ok (.iconst 3, 1) := by decide +kernel
theorem dX5_softens_5 : decode cX5_softens 5 = .ok (.iload_n 1, 1) := by decide +kernel
theorem dX5_softens_6 : decode cX5_softens 6 = .ok (.imul, 1) := by decide +kernel
theorem dX5_softens_7 : decode cX5_softens 7 = .ok (.iconst 1, 1) := by decide +kernel
theorem dX5_softens_8 : decode cX5_softens 8 = .ok (.iadd, 1) := by decide +kernel
theorem dX5_softens_9 : decode cX5_softens 9 = .ok (.iaload, 1) := by decide +kernel
theorem dX5_softens_10 : decode cX5_softens 10 = .ok (.istore_n 3, 1) := by decide +kernel
theorem dX5_softens_11 : decode cX5_softens 11 = .ok (.iload_n 3, 1) := by decide +kernel
theorem dX5_softens_12 : decode cX5_softens 12 = .ok (.iconst 5, 1) := by decide +kernel
theorem dX5_softens_13 : decode cX5_softens 13 = .ok (.if_icmp .eq 21, 3) := by decide +kernel
theorem dX5_softens_16 : decode cX5_softens 16 = .ok (.iload_n 3, 1) := by decide +kernel
theorem dX5_softens_17 : decode cX5_softens 17 = .ok (.iconst 3, 1) := by decide +kernel
theorem dX5_softens_18 : decode cX5_softens 18 = .ok (.if_icmp .ne 18, 3) := by decide +kernel
theorem dX5_softens_21 : decode cX5_softens 21 = .ok (.aload_n 0, 1) := by decide +kernel
theorem dX5_softens_22 : decode cX5_softens 22 = .ok (.getfield 29, 3) := by decide +kernel
theorem dX5_softens_25 : decode cX5_softens 25 = .ok (.iconst 5, 1) := by decide +kernel
theorem dX5_softens_26 : decode cX5_softens 26 = .ok (.iload_n 2, 1) := by decide +kernel
theorem dX5_softens_27 : decode cX5_softens 27 = .ok (.imul, 1) := by decide +kernel
theorem dX5_softens_28 : decode cX5_softens 28 = .ok (.iaload, 1) := by decide +kernel
theorem dX5_softens_29 : decode cX5_softens 29 = .ok (.bipush 21, 2) := by decide +kernel
theorem dX5_softens_31 : decode cX5_softens 31 = .ok (.if_icmp .ge 5, 3) := by decide +kernel
theorem dX5_softens_34 : decode cX5_softens 34 = .ok (.iconst 0, 1) := by decide +kernel
theorem dX5_softens_35 : decode cX5_softens 35 = .ok (.ireturn, 1) := by decide +kernel
theorem dX5_softens_36 : decode cX5_softens 36 = .ok (.aload_n 0, 1) := by decide +kernel
theorem dX5_softens_37 : decode cX5_softens 37 = .ok (.iconst 1, 1) := by decide +kernel
theorem dX5_softens_38 : decode cX5_softens 38 = .ok (.iload_n 1, 1) := by decide +kernel
theorem dX5_softens_39 : decode cX5_softens 39 = .ok (.iload_n 2, 1) := by decide +kernel
theorem dX5_softens_40 : decode cX5_softens 40 = .ok (.invokevirtual 256, 3) := by decide +kernel
theorem dX5_softens_43 : decode cX5_softens 43 = .ok (.istore 4, 2) := by decide +kernel
theorem dX5_softens_45 : decode cX5_softens 45 = .ok (.iload 4, 2) := by decide +kernel
theorem dX5_softens_47 : decode cX5_softens 47 = .ok (.aload_n 0, 1) := by decide +kernel
theorem dX5_softens_48 : decode cX5_softens 48 = .ok (.getfield 26, 3) := by decide +kernel
theorem dX5_softens_51 : decode cX5_softens 51 = .ok (.iconst 3, 1) := by decide +kernel
theorem dX5_softens_52 : decode cX5_softens 52 = .ok (.iload_n 1, 1) := by decide +kernel
theorem dX5_softens_53 : decode cX5_softens 53 = .ok (.imul, 1) := by decide +kernel
theorem dX5_softens_54 : decode cX5_softens 54 = .ok (.iaload, 1) := by decide +kernel
theorem dX5_softens_55 : decode cX5_softens 55 = .ok (.iadd, 1) := by decide +kernel
theorem dX5_softens_56 : decode cX5_softens 56 = .ok (.istore 5, 2) := by decide +kernel
theorem dX5_softens_58 : decode cX5_softens 58 = .ok (.iload_n 3, 1) := by decide +kernel
theorem dX5_softens_59 : decode cX5_softens 59 = .ok (.iconst 2, 1) := by decide +kernel
theorem dX5_softens_60 : decode cX5_softens 60 = .ok (.if_icmp .ne 8, 3) := by decide +kernel
theorem dX5_softens_63 : decode cX5_softens 63 = .ok (.iload 5, 2) := by decide +kernel
theorem dX5_softens_65 : decode cX5_softens 65 = .ok (.goto 27, 3) := by decide +kernel
theorem dX5_softens_68 : decode cX5_softens 68 = .ok (.iload_n 3, 1) := by decide +kernel
theorem dX5_softens_69 : decode cX5_softens 69 = .ok (.iconst 4, 1) := by decide +kernel
theorem dX5_softens_70 : decode cX5_softens 70 = .ok (.if_icmp .ne 9, 3) := by decide +kernel
theorem dX5_softens_73 : decode cX5_softens 73 = .ok (.iload 5, 2) := by decide +kernel
theorem dX5_softens_75 : decode cX5_softens 75 = .ok (.ineg, 1) := by decide +kernel
theorem dX5_softens_76 : decode cX5_softens 76 = .ok (.goto 16, 3) := by decide +kernel
theorem dX5_softens_79 : decode cX5_softens 79 = .ok (.iload_n 3, 1) := by decide +kernel
theorem dX5_softens_80 : decode cX5_softens 80 = .ok (.ifCond .ne 8, 3) := by decide +kernel
theorem dX5_softens_83 : decode cX5_softens 83 = .ok (.iload 4, 2) := by decide +kernel
theorem dX5_softens_85 : decode cX5_softens 85 = .ok (.goto 7, 3) := by decide +kernel
theorem dX5_softens_88 : decode cX5_softens 88 = .ok (.iconst 2, 1) := by decide +kernel
theorem dX5_softens_89 : decode cX5_softens 89 = .ok (.iload 4, 2) := by decide +kernel
theorem dX5_softens_91 : decode cX5_softens 91 = .ok (.imul, 1) := by decide +kernel
theorem dX5_softens_92 : decode cX5_softens 92 = .ok (.ireturn, 1) := by decide +kernel
theorem dX5_writesOf_0 : decode cX5_writesOf 0 = .ok (.aload_n 0, 1) := by decide +kernel
theorem dX5_writesOf_1 : decode cX5_writesOf 1 = .ok (.getfield 26, 3) := by decide +kernel
theorem dX5_writesOf_4 : decode cX5_writesOf 4 = .ok (.iconst 3, 1) := by decide +kernel
theorem dX5_writesOf_5 : decode cX5_writesOf 5 = .ok (.iload_n 1, 1) := by decide +kernel
theorem dX5_writesOf_6 : decode cX5_writesOf 6 = .ok (.imul, 1) := by decide +kernel
theorem dX5_writesOf_7 : decode cX5_writesOf 7 = .ok (.iconst 1, 1) := by decide +kernel
theorem dX5_writesOf_8 : decode cX5_writesOf 8 = .ok (.iadd, 1) := by decide +kernel
theorem dX5_writesOf_9 : decode cX5_writesOf 9 = .ok (.iaload, 1) := by decide +kernel
theorem dX5_writesOf_10 : decode cX5_writesOf 10 = .ok (.istore_n 2, 1) := by decide +kernel
theorem dX5_writesOf_11 : decode cX5_writesOf 11 = .ok (.iload_n 2, 1) := by decide +kernel
theorem dX5_writesOf_12 : decode cX5_writesOf 12 = .ok (.iconst 5, 1) := by decide +kernel
theorem dX5_writesOf_13 : decode cX5_writesOf 13 = .ok (.if_icmp .ne 15, 3) := by decide +kernel
theorem dX5_writesOf_16 : decode cX5_writesOf 16 = .ok (.bipush 10, 2) := by decide +kernel
theorem dX5_writesOf_18 : decode cX5_writesOf 18 = .ok (.aload_n 0, 1) := by decide +kernel
theorem dX5_writesOf_19 : decode cX5_writesOf 19 = .ok (.getfield 26, 3) := by decide +kernel
theorem dX5_writesOf_22 : decode cX5_writesOf 22 = .ok (.iconst 3, 1) := by decide +kernel
theorem dX5_writesOf_23 : decode cX5_writesOf 23 = .ok (.iload_n 1, 1) := by decide +kernel
theorem dX5_writesOf_24 : decode cX5_writesOf 24 = .ok (.imul, 1) := by decide +kernel
theorem dX5_writesOf_25 : decode cX5_writesOf 25 = .ok (.iaload, 1) := by decide +kernel
theorem dX5_writesOf_26 : decode cX5_writesOf 26 = .ok (.imul, 1) := by decide +kernel
theorem dX5_writesOf_27 : decode cX5_writesOf 27 = .ok (.ireturn, 1) := by decide +kernel
theorem dX5_writesOf_28 : decode cX5_writesOf 28 = .ok (.aload_n 0, 1) := by decide +kernel
theorem dX5_writesOf_29 : decode cX5_writesOf 29 = .ok (.iconst 2, 1) := by decide +kernel
theorem dX5_writesOf_30 : decode cX5_writesOf 30 = .ok (.iload_n 1, 1) := by decide +kernel
theorem dX5_writesOf_31 : decode cX5_writesOf 31 = .ok (.iconst (-1), 1) := by decide +kernel
theorem dX5_writesOf_32 : decode cX5_writesOf 32 = .ok (.invokevirtual 256, 3) := by decide +kernel
theorem dX5_writesOf_35 : decode cX5_writesOf 35 = .ok (.istore_n 3, 1) := by decide +kernel
theorem dX5_writesOf_36 : decode cX5_writesOf 36 = .ok (.iload_n 2, 1) := by decide +kernel
theorem dX5_writesOf_37 : decode cX5_writesOf 37 = .ok (.iconst 1, 1) := by decide +kernel
theorem dX5_writesOf_38 : decode cX5_writesOf 38 = .ok (.if_icmp .eq 8, 3) := by decide +kernel
theorem dX5_writesOf_41 : decode cX5_writesOf 41 = .ok (.iload_n 2, 1) := by decide +kernel
theorem dX5_writesOf_42 : decode cX5_writesOf 42 = .ok (.iconst 3, 1) := by decide +kernel
theorem dX5_writesOf_43 : decode cX5_writesOf 43 = .ok (.if_icmp .ne 9, 3) := by decide +kernel
theorem dX5_writesOf_46 : decode cX5_writesOf 46 = .ok (.iload_n 3, 1) := by decide +kernel
theorem dX5_writesOf_47 : decode cX5_writesOf 47 = .ok (.iconst 2, 1) := by decide +kernel
theorem dX5_writesOf_48 : decode cX5_writesOf 48 = .ok (.idiv, 1) := by decide +kernel
theorem dX5_writesOf_49 : decode cX5_writesOf 49 = .ok (.goto 15, 3) := by decide +kernel
theorem dX5_writesOf_52 : decode cX5_writesOf 52 = .ok (.iload_n 2, 1) := by decide +kernel
theorem dX5_writesOf_53 : decode cX5_writesOf 53 = .ok (.ifCond .ne 7, 3) := by decide +kernel
theorem dX5_writesOf_56 : decode cX5_writesOf 56 = .ok (.iload_n 3, 1) := by decide +kernel
theorem dX5_writesOf_57 : decode cX5_writesOf 57 = .ok (.goto 7, 3) := by decide +kernel
theorem dX5_writesOf_60 : decode cX5_writesOf 60 = .ok (.bipush 99, 2) := by decide +kernel
theorem dX5_writesOf_62 : decode cX5_writesOf 62 = .ok (.iload_n 3, 1) := by decide +kernel
theorem dX5_writesOf_63 : decode cX5_writesOf 63 = .ok (.isub, 1) := by decide +kernel
theorem dX5_writesOf_64 : decode cX5_writesOf 64 = .ok (.iconst 0, 1) := by decide +kernel
theorem dX5_writesOf_65 : decode cX5_writesOf 65 = .ok (.bipush 99, 2) := by decide +kernel
theorem dX5_writesOf_67 : decode cX5_writesOf 67 = .ok (.invokestatic 249, 3) := by decide +kernel
theorem dX5_writesOf_70 : decode cX5_writesOf 70 = .ok (.ireturn, 1) := by decide +kernel
theorem dX5_asks_0 : decode cX5_asks 0 = .ok (.aload_n 0, 1) := by decide +kernel
theorem dX5_asks_1 : decode cX5_asks 1 = .ok (.iload_n 1, 1) := by decide +kernel
theorem dX5_asks_2 : decode cX5_asks 2 = .ok (.invokevirtual 83, 3) := by decide +kernel
theorem dX5_asks_5 : decode cX5_asks 5 = .ok (.ifCond .eq 21, 3) := by decide +kernel
theorem dX5_asks_8 : decode cX5_asks 8 = .ok (.aload_n 0, 1) := by decide +kernel
theorem dX5_asks_9 : decode cX5_asks 9 = .ok (.iload_n 2, 1) := by decide +kernel
theorem dX5_asks_10 : decode cX5_asks 10 = .ok (.invokevirtual 87, 3) := by decide +kernel
theorem dX5_asks_13 : decode cX5_asks 13 = .ok (.ifCond .eq 13, 3) := by decide +kernel
theorem dX5_asks_16 : decode cX5_asks 16 = .ok (.iload_n 3, 1) := by decide +kernel
theorem dX5_asks_17 : decode cX5_asks 17 = .ok (.i2l, 1) := by decide +kernel
theorem dX5_asks_18 : decode cX5_asks 18 = .ok (.lconst 0, 1) := by decide +kernel
theorem dX5_asks_19 : decode cX5_asks 19 = .ok (.lconst 1, 1) := by decide +kernel
theorem dX5_asks_20 : decode cX5_asks 20 = .ok (.invokestatic 76, 3) := by decide +kernel
theorem dX5_asks_23 : decode cX5_asks 23 = .ok (.ifCond .ne 7, 3) := by decide +kernel
theorem dX5_asks_26 : decode cX5_asks 26 = .ok (.sipush (-1000), 3) := by decide +kernel
theorem dX5_asks_29 : decode cX5_asks 29 = .ok (.ireturn, 1) := by decide +kernel
theorem dX5_asks_30 : decode cX5_asks 30 = .ok (.iload_n 3, 1) := by decide +kernel
theorem dX5_asks_31 : decode cX5_asks 31 = .ok (.iconst 1, 1) := by decide +kernel
theorem dX5_asks_32 : decode cX5_asks 32 = .ok (.if_icmp .ne 12, 3) := by decide +kernel
theorem dX5_asks_35 : decode cX5_asks 35 = .ok (.aload_n 0, 1) := by decide +kernel
theorem dX5_asks_36 : decode cX5_asks 36 = .ok (.iload_n 1, 1) := by decide +kernel
theorem dX5_asks_37 : decode cX5_asks 37 = .ok (.iload_n 2, 1) := by decide +kernel
theorem dX5_asks_38 : decode cX5_asks 38 = .ok (.invokevirtual 259, 3) := by decide +kernel
theorem dX5_asks_41 : decode cX5_asks 41 = .ok (.goto 17, 3) := by decide +kernel
theorem dX5_asks_44 : decode cX5_asks 44 = .ok (.aload_n 0, 1) := by decide +kernel
theorem dX5_asks_45 : decode cX5_asks 45 = .ok (.iload_n 1, 1) := by decide +kernel
theorem dX5_asks_46 : decode cX5_asks 46 = .ok (.iload_n 2, 1) := by decide +kernel
theorem dX5_asks_47 : decode cX5_asks 47 = .ok (.invokevirtual 262, 3) := by decide +kernel
theorem dX5_asks_50 : decode cX5_asks 50 = .ok (.ifCond .eq 7, 3) := by decide +kernel
theorem dX5_asks_53 : decode cX5_asks 53 = .ok (.iconst 1, 1) := by decide +kernel
theorem dX5_asks_54 : decode cX5_asks 54 = .ok (.goto 4, 3) := by decide +kernel
theorem dX5_asks_57 : decode cX5_asks 57 = .ok (.iconst 0, 1) := by decide +kernel
theorem dX5_asks_58 : decode cX5_asks 58 = .ok (.ireturn, 1) := by decide +kernel
theorem dX5_writes_0 : decode cX5_writes 0 = .ok (.aload_n 0, 1) := by decide +kernel
theorem dX5_writes_1 : decode cX5_writes 1 = .ok (.iload_n 1, 1) := by decide +kernel
theorem dX5_writes_2 : decode cX5_writes 2 = .ok (.invokevirtual 83, 3) := by decide +kernel
theorem dX5_writes_5 : decode cX5_writes 5 = .ok (.ifCond .eq 11, 3) := by decide +kernel
theorem dX5_writes_8 : decode cX5_writes 8 = .ok (.aload_n 0, 1) := by decide +kernel
theorem dX5_writes_9 : decode cX5_writes 9 = .ok (.iload_n 1, 1) := by decide +kernel
theorem dX5_writes_10 : decode cX5_writes 10 = .ok (.invokevirtual 265, 3) := by decide +kernel
theorem dX5_writes_13 : decode cX5_writes 13 = .ok (.goto 5, 3) := by decide +kernel
theorem dX5_writes_16 : decode cX5_writes 16 = .ok (.bipush (-2), 2) := by decide +kernel
theorem dX5_writes_18 : decode cX5_writes 18 = .ok (.ireturn, 1) := by decide +kernel
theorem dX5_sends_0 : decode cX5_sends 0 = .ok (.iconst 5, 1) := by decide +kernel
theorem dX5_sends_1 : decode cX5_sends 1 = .ok (.aload_n 0, 1) := by decide +kernel
theorem dX5_sends_2 : decode cX5_sends 2 = .ok (.getfield 80, 3) := by decide +kernel
theorem dX5_sends_5 : decode cX5_sends 5 = .ok (.imul, 1) := by decide +kernel
theorem dX5_sends_6 : decode cX5_sends 6 = .ok (.istore_n 3, 1) := by decide +kernel
theorem dX5_sends_7 : decode cX5_sends 7 = .ok (.aload_n 0, 1) := by decide +kernel
theorem dX5_sends_8 : decode cX5_sends 8 = .ok (.getfield 29, 3) := by decide +kernel
theorem dX5_sends_11 : decode cX5_sends 11 = .ok (.iload_n 3, 1) := by decide +kernel
theorem dX5_sends_12 : decode cX5_sends 12 = .ok (.aload_n 0, 1) := by decide +kernel
theorem dX5_sends_13 : decode cX5_sends 13 = .ok (.iload_n 1, 1) := by decide +kernel
theorem dX5_sends_14 : decode cX5_sends 14 = .ok (.invokevirtual 265, 3) := by decide +kernel
theorem dX5_sends_17 : decode cX5_sends 17 = .ok (.iastore, 1) := by decide +kernel
theorem dX5_sends_18 : decode cX5_sends 18 = .ok (.aload_n 0, 1) := by decide +kernel
theorem dX5_sends_19 : decode cX5_sends 19 = .ok (.getfield 29, 3) := by decide +kernel
theorem dX5_sends_22 : decode cX5_sends 22 = .ok (.iload_n 3, 1) := by decide +kernel
theorem dX5_sends_23 : decode cX5_sends 23 = .ok (.iconst 1, 1) := by decide +kernel
theorem dX5_sends_24 : decode cX5_sends 24 = .ok (.iadd, 1) := by decide +kernel
theorem dX5_sends_25 : decode cX5_sends 25 = .ok (.iload_n 1, 1) := by decide +kernel
theorem dX5_sends_26 : decode cX5_sends 26 = .ok (.iastore, 1) := by decide +kernel
theorem dX5_sends_27 : decode cX5_sends 27 = .ok (.aload_n 0, 1) := by decide +kernel
theorem dX5_sends_28 : decode cX5_sends 28 = .ok (.getfield 29, 3) := by decide +kernel
theorem dX5_sends_31 : decode cX5_sends 31 = .ok (.iload_n 3, 1) := by decide +kernel
theorem dX5_sends_32 : decode cX5_sends 32 = .ok (.iconst 2, 1) := by decide +kernel
theorem dX5_sends_33 : decode cX5_sends 33 = .ok (.iadd, 1) := by decide +kernel
theorem dX5_sends_34 : decode cX5_sends 34 = .ok (.iload_n 2, 1) := by decide +kernel
theorem dX5_sends_35 : decode cX5_sends 35 = .ok (.iastore, 1) := by decide +kernel
theorem dX5_sends_36 : decode cX5_sends 36 = .ok (.aload_n 0, 1) := by decide +kernel
theorem dX5_sends_37 : decode cX5_sends 37 = .ok (.getfield 29, 3) := by decide +kernel
theorem dX5_sends_40 : decode cX5_sends 40 = .ok (.iload_n 3, 1) := by decide +kernel
theorem dX5_sends_41 : decode cX5_sends 41 = .ok (.iconst 3, 1) := by decide +kernel
theorem dX5_sends_42 : decode cX5_sends 42 = .ok (.iadd, 1) := by decide +kernel
theorem dX5_sends_43 : decode cX5_sends 43 = .ok (.aload_n 0, 1) := by decide +kernel
theorem dX5_sends_44 : decode cX5_sends 44 = .ok (.getfield 26, 3) := by decide +kernel
theorem dX5_sends_47 : decode cX5_sends 47 = .ok (.iconst 3, 1) := by decide +kernel
theorem dX5_sends_48 : decode cX5_sends 48 = .ok (.iload_n 2, 1) := by decide +kernel
theorem dX5_sends_49 : decode cX5_sends 49 = .ok (.imul, 1) := by decide +kernel
theorem dX5_sends_50 : decode cX5_sends 50 = .ok (.iconst 2, 1) := by decide +kernel
theorem dX5_sends_51 : decode cX5_sends 51 = .ok (.iadd, 1) := by decide +kernel
theorem dX5_sends_52 : decode cX5_sends 52 = .ok (.iaload, 1) := by decide +kernel
theorem dX5_sends_53 : decode cX5_sends 53 = .ok (.aload_n 0, 1) := by decide +kernel
theorem dX5_sends_54 : decode cX5_sends 54 = .ok (.getfield 23, 3) := by decide +kernel
theorem dX5_sends_57 : decode cX5_sends 57 = .ok (.iadd, 1) := by decide +kernel
theorem dX5_sends_58 : decode cX5_sends 58 = .ok (.bipush 8, 2) := by decide +kernel
theorem dX5_sends_60 : decode cX5_sends 60 = .ok (.irem, 1) := by decide +kernel
theorem dX5_sends_61 : decode cX5_sends 61 = .ok (.iastore, 1) := by decide +kernel
theorem dX5_sends_62 : decode cX5_sends 62 = .ok (.aload_n 0, 1) := by decide +kernel
theorem dX5_sends_63 : decode cX5_sends 63 = .ok (.getfield 29, 3) := by decide +kernel
theorem dX5_sends_66 : decode cX5_sends 66 = .ok (.iload_n 3, 1) := by decide +kernel
theorem dX5_sends_67 : decode cX5_sends 67 = .ok (.iconst 4, 1) := by decide +kernel
theorem dX5_sends_68 : decode cX5_sends 68 = .ok (.iadd, 1) := by decide +kernel
theorem dX5_sends_69 : decode cX5_sends 69 = .ok (.iconst 1, 1) := by decide +kernel
theorem dX5_sends_70 : decode cX5_sends 70 = .ok (.iload_n 1, 1) := by decide +kernel
theorem dX5_sends_71 : decode cX5_sends 71 = .ok (.ishl, 1) := by decide +kernel
theorem dX5_sends_72 : decode cX5_sends 72 = .ok (.iastore, 1) := by decide +kernel
theorem dX5_sends_73 : decode cX5_sends 73 = .ok (.aload_n 0, 1) := by decide +kernel
theorem dX5_sends_74 : decode cX5_sends 74 = .ok (.dup, 1) := by decide +kernel
theorem dX5_sends_75 : decode cX5_sends 75 = .ok (.getfield 80, 3) := by decide +kernel
theorem dX5_sends_78 : decode cX5_sends 78 = .ok (.iconst 1, 1) := by decide +kernel
theorem dX5_sends_79 : decode cX5_sends 79 = .ok (.iadd, 1) := by decide +kernel
theorem dX5_sends_80 : decode cX5_sends 80 = .ok (.putfield 80, 3) := by decide +kernel
theorem dX5_sends_83 : decode cX5_sends 83 = .ok (.return_, 1) := by decide +kernel
theorem dX5_send_0 : decode cX5_send 0 = .ok (.aload_n 0, 1) := by decide +kernel
theorem dX5_send_1 : decode cX5_send 1 = .ok (.iload_n 1, 1) := by decide +kernel
theorem dX5_send_2 : decode cX5_send 2 = .ok (.iload_n 2, 1) := by decide +kernel
theorem dX5_send_3 : decode cX5_send 3 = .ok (.invokevirtual 123, 3) := by decide +kernel
theorem dX5_send_6 : decode cX5_send 6 = .ok (.ifCond .ne 6, 3) := by decide +kernel
theorem dX5_send_9 : decode cX5_send 9 = .ok (.bipush (-2), 2) := by decide +kernel
theorem dX5_send_11 : decode cX5_send 11 = .ok (.ireturn, 1) := by decide +kernel
theorem dX5_send_12 : decode cX5_send 12 = .ok (.aload_n 0, 1) := by decide +kernel
theorem dX5_send_13 : decode cX5_send 13 = .ok (.getfield 80, 3) := by decide +kernel
theorem dX5_send_16 : decode cX5_send 16 = .ok (.bipush 8, 2) := by decide +kernel
theorem dX5_send_18 : decode cX5_send 18 = .ok (.if_icmp .ne 6, 3) := by decide +kernel
theorem dX5_send_21 : decode cX5_send 21 = .ok (.bipush (-4), 2) := by decide +kernel
theorem dX5_send_23 : decode cX5_send 23 = .ok (.ireturn, 1) := by decide +kernel
theorem dX5_send_24 : decode cX5_send 24 = .ok (.aload_n 0, 1) := by decide +kernel
theorem dX5_send_25 : decode cX5_send 25 = .ok (.iload_n 1, 1) := by decide +kernel
theorem dX5_send_26 : decode cX5_send 26 = .ok (.iload_n 2, 1) := by decide +kernel
theorem dX5_send_27 : decode cX5_send 27 = .ok (.invokevirtual 268, 3) := by decide +kernel
theorem dX5_send_30 : decode cX5_send 30 = .ok (.aload_n 0, 1) := by decide +kernel
theorem dX5_send_31 : decode cX5_send 31 = .ok (.getfield 80, 3) := by decide +kernel
theorem dX5_send_34 : decode cX5_send 34 = .ok (.iconst 1, 1) := by decide +kernel
theorem dX5_send_35 : decode cX5_send 35 = .ok (.isub, 1) := by decide +kernel
theorem dX5_send_36 : decode cX5_send 36 = .ok (.ireturn, 1) := by decide +kernel
theorem dX5_steps_0 : decode cX5_steps 0 = .ok (.iconst 5, 1) := by decide +kernel
theorem dX5_steps_1 : decode cX5_steps 1 = .ok (.iload_n 1, 1) := by decide +kernel
theorem dX5_steps_2 : decode cX5_steps 2 = .ok (.imul, 1) := by decide +kernel
theorem dX5_steps_3 : decode cX5_steps 3 = .ok (.istore_n 2, 1) := by decide +kernel
theorem dX5_steps_4 : decode cX5_steps 4 = .ok (.aload_n 0, 1) := by decide +kernel
theorem dX5_steps_5 : decode cX5_steps 5 = .ok (.aload_n 0, 1) := by decide +kernel
theorem dX5_steps_6 : decode cX5_steps 6 = .ok (.getfield 29, 3) := by decide +kernel
theorem dX5_steps_9 : decode cX5_steps 9 = .ok (.iload_n 2, 1) := by decide +kernel
theorem dX5_steps_10 : decode cX5_steps 10 = .ok (.iconst 3, 1) := by decide +kernel
theorem dX5_steps_11 : decode cX5_steps 11 = .ok (.iadd, 1) := by decide +kernel
theorem dX5_steps_12 : decode cX5_steps 12 = .ok (.iaload, 1) := by decide +kernel
theorem dX5_steps_13 : decode cX5_steps 13 = .ok (.invokevirtual 120, 3) := by decide +kernel
theorem dX5_steps_16 : decode cX5_steps 16 = .ok (.istore_n 3, 1) := by decide +kernel
theorem dX5_steps_17 : decode cX5_steps 17 = .ok (.aload_n 0, 1) := by decide +kernel
theorem dX5_steps_18 : decode cX5_steps 18 = .ok (.getfield 29, 3) := by decide +kernel
theorem dX5_steps_21 : decode cX5_steps 21 = .ok (.iload_n 2, 1) := by decide +kernel
theorem dX5_steps_22 : decode cX5_steps 22 = .ok (.iconst 3, 1) := by decide +kernel
theorem dX5_steps_23 : decode cX5_steps 23 = .ok (.iadd, 1) := by decide +kernel
theorem dX5_steps_24 : decode cX5_steps 24 = .ok (.iaload, 1) := by decide +kernel
theorem dX5_steps_25 : decode cX5_steps 25 = .ok (.bipush 8, 2) := by decide +kernel
theorem dX5_steps_27 : decode cX5_steps 27 = .ok (.iadd, 1) := by decide +kernel
theorem dX5_steps_28 : decode cX5_steps 28 = .ok (.iconst 1, 1) := by decide +kernel
theorem dX5_steps_29 : decode cX5_steps 29 = .ok (.isub, 1) := by decide +kernel
theorem dX5_steps_30 : decode cX5_steps 30 = .ok (.bipush 8, 2) := by decide +kernel
theorem dX5_steps_32 : decode cX5_steps 32 = .ok (.irem, 1) := by decide +kernel
theorem dX5_steps_33 : decode cX5_steps 33 = .ok (.istore 4, 2) := by decide +kernel
theorem dX5_steps_35 : decode cX5_steps 35 = .ok (.aload_n 0, 1) := by decide +kernel
theorem dX5_steps_36 : decode cX5_steps 36 = .ok (.getfield 29, 3) := by decide +kernel
theorem dX5_steps_39 : decode cX5_steps 39 = .ok (.iload_n 2, 1) := by decide +kernel
theorem dX5_steps_40 : decode cX5_steps 40 = .ok (.iconst 4, 1) := by decide +kernel
theorem dX5_steps_41 : decode cX5_steps 41 = .ok (.iadd, 1) := by decide +kernel
theorem dX5_steps_42 : decode cX5_steps 42 = .ok (.dup2, 1) := by decide +kernel
theorem dX5_steps_43 : decode cX5_steps 43 = .ok (.iaload, 1) := by decide +kernel
theorem dX5_steps_44 : decode cX5_steps 44 = .ok (.iload_n 3, 1) := by decide +kernel
theorem dX5_steps_45 : decode cX5_steps 45 = .ok (.iconst (-1), 1) := by decide +kernel
theorem dX5_steps_46 : decode cX5_steps 46 = .ok (.if_icmp .ne 7, 3) := by decide +kernel
theorem dX5_steps_49 : decode cX5_steps 49 = .ok (.iconst 0, 1) := by decide +kernel
theorem dX5_steps_50 : decode cX5_steps 50 = .ok (.goto 6, 3) := by decide +kernel
theorem dX5_steps_53 : decode cX5_steps 53 = .ok (.iconst 1, 1) := by decide +kernel
theorem dX5_steps_54 : decode cX5_steps 54 = .ok (.iload_n 3, 1) := by decide +kernel
theorem dX5_steps_55 : decode cX5_steps 55 = .ok (.ishl, 1) := by decide +kernel
theorem dX5_steps_56 : decode cX5_steps 56 = .ok (.ior, 1) := by decide +kernel
theorem dX5_steps_57 : decode cX5_steps 57 = .ok (.iastore, 1) := by decide +kernel
theorem dX5_steps_58 : decode cX5_steps 58 = .ok (.iload_n 3, 1) := by decide +kernel
theorem dX5_steps_59 : decode cX5_steps 59 = .ok (.iconst (-1), 1) := by decide +kernel
theorem dX5_steps_60 : decode cX5_steps 60 = .ok (.if_icmp .ne 16, 3) := by decide +kernel
theorem dX5_steps_63 : decode cX5_steps 63 = .ok (.aload_n 0, 1) := by decide +kernel
theorem dX5_steps_64 : decode cX5_steps 64 = .ok (.getfield 29, 3) := by decide +kernel
theorem dX5_steps_67 : decode cX5_steps 67 = .ok (.iload_n 2, 1) := by decide +kernel
theorem dX5_steps_68 : decode cX5_steps 68 = .ok (.iconst 3, 1) := by decide +kernel
theorem dX5_steps_69 : decode cX5_steps 69 = .ok (.iadd, 1) := by decide +kernel
theorem dX5_steps_70 : decode cX5_steps 70 = .ok (.iload 4, 2) := by decide +kernel
theorem dX5_steps_72 : decode cX5_steps 72 = .ok (.iastore, 1) := by decide +kernel
theorem dX5_steps_73 : decode cX5_steps 73 = .ok (.goto 71, 3) := by decide +kernel
theorem dX5_steps_76 : decode cX5_steps 76 = .ok (.iload_n 3, 1) := by decide +kernel
theorem dX5_steps_77 : decode cX5_steps 77 = .ok (.aload_n 0, 1) := by decide +kernel
theorem dX5_steps_78 : decode cX5_steps 78 = .ok (.getfield 29, 3) := by decide +kernel
theorem dX5_steps_81 : decode cX5_steps 81 = .ok (.iload_n 2, 1) := by decide +kernel
theorem dX5_steps_82 : decode cX5_steps 82 = .ok (.iconst 2, 1) := by decide +kernel
theorem dX5_steps_83 : decode cX5_steps 83 = .ok (.iadd, 1) := by decide +kernel
theorem dX5_steps_84 : decode cX5_steps 84 = .ok (.iaload, 1) := by decide +kernel
theorem dX5_steps_85 : decode cX5_steps 85 = .ok (.if_icmp .ne 15, 3) := by decide +kernel
theorem dX5_steps_88 : decode cX5_steps 88 = .ok (.aload_n 0, 1) := by decide +kernel
theorem dX5_steps_89 : decode cX5_steps 89 = .ok (.getfield 29, 3) := by decide +kernel
theorem dX5_steps_92 : decode cX5_steps 92 = .ok (.iload_n 2, 1) := by decide +kernel
theorem dX5_steps_93 : decode cX5_steps 93 = .ok (.iconst 3, 1) := by decide +kernel
theorem dX5_steps_94 : decode cX5_steps 94 = .ok (.iadd, 1) := by decide +kernel
theorem dX5_steps_95 : decode cX5_steps 95 = .ok (.iconst (-1), 1) := by decide +kernel
theorem dX5_steps_96 : decode cX5_steps 96 = .ok (.iastore, 1) := by decide +kernel
theorem dX5_steps_97 : decode cX5_steps 97 = .ok (.goto 47, 3) := by decide +kernel
theorem dX5_steps_100 : decode cX5_steps 100 = .ok (.aload_n 0, 1) := by decide +kernel
theorem dX5_steps_101 : decode cX5_steps 101 = .ok (.iload_n 3, 1) := by decide +kernel
theorem dX5_steps_102 : decode cX5_steps 102 = .ok (.iload_n 1, 1) := by decide +kernel
theorem dX5_steps_103 : decode cX5_steps 103 = .ok (.invokevirtual 262, 3) := by decide +kernel
theorem dX5_steps_106 : decode cX5_steps 106 = .ok (.ifCond .eq 38, 3) := by decide +kernel
theorem dX5_steps_109 : decode cX5_steps 109 = .ok (.aload_n 0, 1) := by decide +kernel
theorem dX5_steps_110 : decode cX5_steps 110 = .ok (.getfield 29, 3) := by decide +kernel
theorem dX5_steps_113 : decode cX5_steps 113 = .ok (.iload_n 2, 1) := by decide +kernel
theorem dX5_steps_114 : decode cX5_steps 114 = .ok (.aload_n 0, 1) := by decide +kernel
theorem dX5_steps_115 : decode cX5_steps 115 = .ok (.getfield 29, 3) := by decide +kernel
theorem dX5_steps_118 : decode cX5_steps 118 = .ok (.iload_n 2, 1) := by decide +kernel
theorem dX5_steps_119 : decode cX5_steps 119 = .ok (.iaload, 1) := by decide +kernel
theorem dX5_steps_120 : decode cX5_steps 120 = .ok (.aload_n 0, 1) := by decide +kernel
theorem dX5_steps_121 : decode cX5_steps 121 = .ok (.iload_n 3, 1) := by decide +kernel
theorem dX5_steps_122 : decode cX5_steps 122 = .ok (.iload_n 1, 1) := by decide +kernel
theorem dX5_steps_123 : decode cX5_steps 123 = .ok (.invokevirtual 259, 3) := by decide +kernel
theorem dX5_steps_126 : decode cX5_steps 126 = .ok (.isub, 1) := by decide +kernel
theorem dX5_steps_127 : decode cX5_steps 127 = .ok (.iconst 0, 1) := by decide +kernel
theorem dX5_steps_128 : decode cX5_steps 128 = .ok (.bipush 99, 2) := by decide +kernel
theorem dX5_steps_130 : decode cX5_steps 130 = .ok (.invokestatic 249, 3) := by decide +kernel
theorem dX5_steps_133 : decode cX5_steps 133 = .ok (.iastore, 1) := by decide +kernel
theorem dX5_steps_134 : decode cX5_steps 134 = .ok (.aload_n 0, 1) := by decide +kernel
theorem dX5_steps_135 : decode cX5_steps 135 = .ok (.getfield 29, 3) := by decide +kernel
theorem dX5_steps_138 : decode cX5_steps 138 = .ok (.iload_n 2, 1) := by decide +kernel
theorem dX5_steps_139 : decode cX5_steps 139 = .ok (.iconst 3, 1) := by decide +kernel
theorem dX5_steps_140 : decode cX5_steps 140 = .ok (.iadd, 1) := by decide +kernel
theorem dX5_steps_141 : decode cX5_steps 141 = .ok (.iload 4, 2) := by decide +kernel
theorem dX5_steps_143 : decode cX5_steps 143 = .ok (.iastore, 1) := by decide +kernel
theorem dX5_steps_144 : decode cX5_steps 144 = .ok (.return_, 1) := by decide +kernel
theorem dX5_homeSet_0 : decode cX5_homeSet 0 = .ok (.iconst 0, 1) := by decide +kernel
theorem dX5_homeSet_1 : decode cX5_homeSet 1 = .ok (.istore_n 1, 1) := by decide +kernel
theorem dX5_homeSet_2 : decode cX5_homeSet 2 = .ok (.iconst 0, 1) := by decide +kernel
theorem dX5_homeSet_3 : decode cX5_homeSet 3 = .ok (.istore_n 2, 1) := by decide +kernel
theorem dX5_homeSet_4 : decode cX5_homeSet 4 = .ok (.iload_n 2, 1) := by decide +kernel
theorem dX5_homeSet_5 : decode cX5_homeSet 5 = .ok (.aload_n 0, 1) := by decide +kernel
theorem dX5_homeSet_6 : decode cX5_homeSet 6 = .ok (.getfield 80, 3) := by decide +kernel
theorem dX5_homeSet_9 : decode cX5_homeSet 9 = .ok (.if_icmp .ge 33, 3) := by decide +kernel
theorem dX5_homeSet_12 : decode cX5_homeSet 12 = .ok (.iload_n 1, 1) := by decide +kernel
theorem dX5_homeSet_13 : decode cX5_homeSet 13 = .ok (.aload_n 0, 1) := by decide +kernel
theorem dX5_homeSet_14 : decode cX5_homeSet 14 = .ok (.getfield 29, 3) := by decide +kernel
theorem dX5_homeSet_17 : decode cX5_homeSet 17 = .ok (.iconst 5, 1) := by decide +kernel
theorem dX5_homeSet_18 : decode cX5_homeSet 18 = .ok (.iload_n 2, 1) := by decide +kernel
theorem dX5_homeSet_19 : decode cX5_homeSet 19 = .ok (.imul, 1) := by decide +kernel
theorem dX5_homeSet_20 : decode cX5_homeSet 20 = .ok (.iconst 3, 1) := by decide +kernel
theorem dX5_homeSet_21 : decode cX5_homeSet 21 = .ok (.iadd, 1) := by decide +kernel
theorem dX5_homeSet_22 : decode cX5_homeSet 22 = .ok (.iaload, 1) := by decide +kernel
theorem dX5_homeSet_23 : decode cX5_homeSet 23 = .ok (.iconst (-1), 1) := by decide +kernel
theorem dX5_homeSet_24 : decode cX5_homeSet 24 = .ok (.if_icmp .ne 7, 3) := by decide +kernel
theorem dX5_homeSet_27 : decode cX5_homeSet 27 = .ok (.iconst 1, 1) := by decide +kernel
theorem dX5_homeSet_28 : decode cX5_homeSet 28 = .ok (.goto 4, 3) := by decide +kernel
theorem dX5_homeSet_31 : decode cX5_homeSet 31 = .ok (.iconst 0, 1) := by decide +kernel
theorem dX5_homeSet_32 : decode cX5_homeSet 32 = .ok (.iload_n 2, 1) := by decide +kernel
theorem dX5_homeSet_33 : decode cX5_homeSet 33 = .ok (.ishl, 1) := by decide +kernel
theorem dX5_homeSet_34 : decode cX5_homeSet 34 = .ok (.ior, 1) := by decide +kernel
theorem dX5_homeSet_35 : decode cX5_homeSet 35 = .ok (.istore_n 1, 1) := by decide +kernel
theorem dX5_homeSet_36 : decode cX5_homeSet 36 = .ok (.iinc 2 1, 3) := by decide +kernel
theorem dX5_homeSet_39 : decode cX5_homeSet 39 = .ok (.goto (-35), 3) := by decide +kernel
theorem dX5_homeSet_42 : decode cX5_homeSet 42 = .ok (.iload_n 1, 1) := by decide +kernel
theorem dX5_homeSet_43 : decode cX5_homeSet 43 = .ok (.ireturn, 1) := by decide +kernel
theorem dX5_homeMany_0 : decode cX5_homeMany 0 = .ok (.aload_n 0, 1) := by decide +kernel
theorem dX5_homeMany_1 : decode cX5_homeMany 1 = .ok (.invokevirtual 272, 3) := by decide +kernel
theorem dX5_homeMany_4 : decode cX5_homeMany 4 = .ok (.invokestatic 246, 3) := by decide +kernel
theorem dX5_homeMany_7 : decode cX5_homeMany 7 = .ok (.ireturn, 1) := by decide +kernel
theorem dX5_passes_0 : decode cX5_passes 0 = .ok (.iconst 0, 1) := by decide +kernel
theorem dX5_passes_1 : decode cX5_passes 1 = .ok (.istore_n 1, 1) := by decide +kernel
theorem dX5_passes_2 : decode cX5_passes 2 = .ok (.iload_n 1, 1) := by decide +kernel
theorem dX5_passes_3 : decode cX5_passes 3 = .ok (.aload_n 0, 1) := by decide +kernel
theorem dX5_passes_4 : decode cX5_passes 4 = .ok (.getfield 80, 3) := by decide +kernel
theorem dX5_passes_7 : decode cX5_passes 7 = .ok (.if_icmp .ge 28, 3) := by decide +kernel
theorem dX5_passes_10 : decode cX5_passes 10 = .ok (.aload_n 0, 1) := by decide +kernel
theorem dX5_passes_11 : decode cX5_passes 11 = .ok (.getfield 29, 3) := by decide +kernel
theorem dX5_passes_14 : decode cX5_passes 14 = .ok (.iconst 5, 1) := by decide +kernel
theorem dX5_passes_15 : decode cX5_passes 15 = .ok (.iload_n 1, 1) := by decide +kernel
theorem dX5_passes_16 : decode cX5_passes 16 = .ok (.imul, 1) := by decide +kernel
theorem dX5_passes_17 : decode cX5_passes 17 = .ok (.iconst 3, 1) := by decide +kernel
theorem dX5_passes_18 : decode cX5_passes 18 = .ok (.iadd, 1) := by decide +kernel
theorem dX5_passes_19 : decode cX5_passes 19 = .ok (.iaload, 1) := by decide +kernel
theorem dX5_passes_20 : decode cX5_passes 20 = .ok (.iconst (-1), 1) := by decide +kernel
theorem dX5_passes_21 : decode cX5_passes 21 = .ok (.if_icmp .eq 8, 3) := by decide +kernel
theorem dX5_passes_24 : decode cX5_passes 24 = .ok (.aload_n 0, 1) := by decide +kernel
theorem dX5_passes_25 : decode cX5_passes 25 = .ok (.iload_n 1, 1) := by decide +kernel
theorem dX5_passes_26 : decode cX5_passes 26 = .ok (.invokevirtual 275, 3) := by decide +kernel
theorem dX5_passes_29 : decode cX5_passes 29 = .ok (.iinc 1 1, 3) := by decide +kernel
theorem dX5_passes_32 : decode cX5_passes 32 = .ok (.goto (-30), 3) := by decide +kernel
theorem dX5_passes_35 : decode cX5_passes 35 = .ok (.aload_n 0, 1) := by decide +kernel
theorem dX5_passes_36 : decode cX5_passes 36 = .ok (.dup, 1) := by decide +kernel
theorem dX5_passes_37 : decode cX5_passes 37 = .ok (.getfield 108, 3) := by decide +kernel
theorem dX5_passes_40 : decode cX5_passes 40 = .ok (.iconst 1, 1) := by decide +kernel
theorem dX5_passes_41 : decode cX5_passes 41 = .ok (.iadd, 1) := by decide +kernel
theorem dX5_passes_42 : decode cX5_passes 42 = .ok (.putfield 108, 3) := by decide +kernel
theorem dX5_passes_45 : decode cX5_passes 45 = .ok (.return_, 1) := by decide +kernel
theorem dX5_day_0 : decode cX5_day 0 = .ok (.aload_n 0, 1) := by decide +kernel
theorem dX5_day_1 : decode cX5_day 1 = .ok (.getfield 108, 3) := by decide +kernel
theorem dX5_day_4 : decode cX5_day 4 = .ok (.sipush 999, 3) := by decide +kernel
theorem dX5_day_7 : decode cX5_day 7 = .ok (.if_icmp .ne 6, 3) := by decide +kernel
theorem dX5_day_10 : decode cX5_day 10 = .ok (.bipush (-3), 2) := by decide +kernel
theorem dX5_day_12 : decode cX5_day 12 = .ok (.ireturn, 1) := by decide +kernel
theorem dX5_day_13 : decode cX5_day 13 = .ok (.aload_n 0, 1) := by decide +kernel
theorem dX5_day_14 : decode cX5_day 14 = .ok (.invokevirtual 272, 3) := by decide +kernel
theorem dX5_day_17 : decode cX5_day 17 = .ok (.istore_n 1, 1) := by decide +kernel
theorem dX5_day_18 : decode cX5_day 18 = .ok (.aload_n 0, 1) := by decide +kernel
theorem dX5_day_19 : decode cX5_day 19 = .ok (.invokevirtual 279, 3) := by decide +kernel
theorem dX5_day_22 : decode cX5_day 22 = .ok (.aload_n 0, 1) := by decide +kernel
theorem dX5_day_23 : decode cX5_day 23 = .ok (.invokevirtual 272, 3) := by decide +kernel
theorem dX5_day_26 : decode cX5_day 26 = .ok (.iload_n 1, 1) := by decide +kernel
theorem dX5_day_27 : decode cX5_day 27 = .ok (.iconst (-1), 1) := by decide +kernel
theorem dX5_day_28 : decode cX5_day 28 = .ok (.ixor, 1) := by decide +kernel
theorem dX5_day_29 : decode cX5_day 29 = .ok (.iand, 1) := by decide +kernel
theorem dX5_day_30 : decode cX5_day 30 = .ok (.ireturn, 1) := by decide +kernel
theorem dX5_laysAside_0 : decode cX5_laysAside 0 = .ok (.iconst 0, 1) := by decide +kernel
theorem dX5_laysAside_1 : decode cX5_laysAside 1 = .ok (.istore_n 1, 1) := by decide +kernel
theorem dX5_laysAside_2 : decode cX5_laysAside 2 = .ok (.iload_n 1, 1) := by decide +kernel
theorem dX5_laysAside_3 : decode cX5_laysAside 3 = .ok (.bipush 40, 2) := by decide +kernel
theorem dX5_laysAside_5 : decode cX5_laysAside 5 = .ok (.if_icmp .ge 21, 3) := by decide +kernel
theorem dX5_laysAside_8 : decode cX5_laysAside 8 = .ok (.aload_n 0, 1) := by decide +kernel
theorem dX5_laysAside_9 : decode cX5_laysAside 9 = .ok (.getfield 32, 3) := by decide +kernel
theorem dX5_laysAside_12 : decode cX5_laysAside 12 = .ok (.iload_n 1, 1) := by decide +kernel
theorem dX5_laysAside_13 : decode cX5_laysAside 13 = .ok (.aload_n 0, 1) := by decide +kernel
theorem dX5_laysAside_14 : decode cX5_laysAside 14 = .ok (.getfield 29, 3) := by decide +kernel
theorem dX5_laysAside_17 : decode cX5_laysAside 17 = .ok (.iload_n 1, 1) := by decide +kernel
theorem dX5_laysAside_18 : decode cX5_laysAside 18 = .ok (.iaload, 1) := by decide +kernel
theorem dX5_laysAside_19 : decode cX5_laysAside 19 = .ok (.iastore, 1) := by decide +kernel
theorem dX5_laysAside_20 : decode cX5_laysAside 20 = .ok (.iinc 1 1, 3) := by decide +kernel
theorem dX5_laysAside_23 : decode cX5_laysAside 23 = .ok (.goto (-21), 3) := by decide +kernel
theorem dX5_laysAside_26 : decode cX5_laysAside 26 = .ok (.aload_n 0, 1) := by decide +kernel
theorem dX5_laysAside_27 : decode cX5_laysAside 27 = .ok (.getfield 32, 3) := by decide +kernel
theorem dX5_laysAside_30 : decode cX5_laysAside 30 = .ok (.bipush 40, 2) := by decide +kernel
theorem dX5_laysAside_32 : decode cX5_laysAside 32 = .ok (.aload_n 0, 1) := by decide +kernel
theorem dX5_laysAside_33 : decode cX5_laysAside 33 = .ok (.getfield 80, 3) := by decide +kernel
theorem dX5_laysAside_36 : decode cX5_laysAside 36 = .ok (.iastore, 1) := by decide +kernel
theorem dX5_laysAside_37 : decode cX5_laysAside 37 = .ok (.aload_n 0, 1) := by decide +kernel
theorem dX5_laysAside_38 : decode cX5_laysAside 38 = .ok (.getfield 32, 3) := by decide +kernel
theorem dX5_laysAside_41 : decode cX5_laysAside 41 = .ok (.bipush 41, 2) := by decide +kernel
theorem dX5_laysAside_43 : decode cX5_laysAside 43 = .ok (.aload_n 0, 1) := by decide +kernel
theorem dX5_laysAside_44 : decode cX5_laysAside 44 = .ok (.getfield 108, 3) := by decide +kernel
theorem dX5_laysAside_47 : decode cX5_laysAside 47 = .ok (.iastore, 1) := by decide +kernel
theorem dX5_laysAside_48 : decode cX5_laysAside 48 = .ok (.return_, 1) := by decide +kernel
theorem dX5_laysBack_0 : decode cX5_laysBack 0 = .ok (.iconst 0, 1) := by decide +kernel
theorem dX5_laysBack_1 : decode cX5_laysBack 1 = .ok (.istore_n 1, 1) := by decide +kernel
theorem dX5_laysBack_2 : decode cX5_laysBack 2 = .ok (.iload_n 1, 1) := by decide +kernel
theorem dX5_laysBack_3 : decode cX5_laysBack 3 = .ok (.bipush 40, 2) := by decide +kernel
theorem dX5_laysBack_5 : decode cX5_laysBack 5 = .ok (.if_icmp .ge 21, 3) := by decide +kernel
theorem dX5_laysBack_8 : decode cX5_laysBack 8 = .ok (.aload_n 0, 1) := by decide +kernel
theorem dX5_laysBack_9 : decode cX5_laysBack 9 = .ok (.getfield 29, 3) := by decide +kernel
theorem dX5_laysBack_12 : decode cX5_laysBack 12 = .ok (.iload_n 1, 1) := by decide +kernel
theorem dX5_laysBack_13 : decode cX5_laysBack 13 = .ok (.aload_n 0, 1) := by decide +kernel
theorem dX5_laysBack_14 : decode cX5_laysBack 14 = .ok (.getfield 32, 3) := by decide +kernel
theorem dX5_laysBack_17 : decode cX5_laysBack 17 = .ok (.iload_n 1, 1) := by decide +kernel
theorem dX5_laysBack_18 : decode cX5_laysBack 18 = .ok (.iaload, 1) := by decide +kernel
theorem dX5_laysBack_19 : decode cX5_laysBack 19 = .ok (.iastore, 1) := by decide +kernel
theorem dX5_laysBack_20 : decode cX5_laysBack 20 = .ok (.iinc 1 1, 3) := by decide +kernel
theorem dX5_laysBack_23 : decode cX5_laysBack 23 = .ok (.goto (-21), 3) := by decide +kernel
theorem dX5_laysBack_26 : decode cX5_laysBack 26 = .ok (.aload_n 0, 1) := by decide +kernel
theorem dX5_laysBack_27 : decode cX5_laysBack 27 = .ok (.aload_n 0, 1) := by decide +kernel
theorem dX5_laysBack_28 : decode cX5_laysBack 28 = .ok (.getfield 32, 3) := by decide +kernel
theorem dX5_laysBack_31 : decode cX5_laysBack 31 = .ok (.bipush 40, 2) := by decide +kernel
theorem dX5_laysBack_33 : decode cX5_laysBack 33 = .ok (.iaload, 1) := by decide +kernel
theorem dX5_laysBack_34 : decode cX5_laysBack 34 = .ok (.putfield 80, 3) := by decide +kernel
theorem dX5_laysBack_37 : decode cX5_laysBack 37 = .ok (.aload_n 0, 1) := by decide +kernel
theorem dX5_laysBack_38 : decode cX5_laysBack 38 = .ok (.aload_n 0, 1) := by decide +kernel
theorem dX5_laysBack_39 : decode cX5_laysBack 39 = .ok (.getfield 32, 3) := by decide +kernel
theorem dX5_laysBack_42 : decode cX5_laysBack 42 = .ok (.bipush 41, 2) := by decide +kernel
theorem dX5_laysBack_44 : decode cX5_laysBack 44 = .ok (.iaload, 1) := by decide +kernel
theorem dX5_laysBack_45 : decode cX5_laysBack 45 = .ok (.putfield 108, 3) := by decide +kernel
theorem dX5_laysBack_48 : decode cX5_laysBack 48 = .ok (.return_, 1) := by decide +kernel
theorem dX5_go_0 : decode cX5_go 0 = .ok (.iconst 0, 1) := by decide +kernel
theorem dX5_go_1 : decode cX5_go 1 = .ok (.istore_n 2, 1) := by decide +kernel
theorem dX5_go_2 : decode cX5_go 2 = .ok (.iload_n 2, 1) := by decide +kernel
theorem dX5_go_3 : decode cX5_go 3 = .ok (.iload_n 1, 1) := by decide +kernel
theorem dX5_go_4 : decode cX5_go 4 = .ok (.if_icmp .ge 13, 3) := by decide +kernel
theorem dX5_go_7 : decode cX5_go 7 = .ok (.aload_n 0, 1) := by decide +kernel
theorem dX5_go_8 : decode cX5_go 8 = .ok (.invokevirtual 279, 3) := by decide +kernel
theorem dX5_go_11 : decode cX5_go 11 = .ok (.iinc 2 1, 3) := by decide +kernel
theorem dX5_go_14 : decode cX5_go 14 = .ok (.goto (-12), 3) := by decide +kernel
theorem dX5_go_17 : decode cX5_go 17 = .ok (.return_, 1) := by decide +kernel
theorem dX5_homeBehind_0 : decode cX5_homeBehind 0 = .ok (.aload_n 0, 1) := by decide +kernel
theorem dX5_homeBehind_1 : decode cX5_homeBehind 1 = .ok (.invokevirtual 282, 3) := by decide +kernel
theorem dX5_homeBehind_4 : decode cX5_homeBehind 4 = .ok (.aload_n 0, 1) := by decide +kernel
theorem dX5_homeBehind_5 : decode cX5_homeBehind 5 = .ok (.iload_n 1, 1) := by decide +kernel
theorem dX5_homeBehind_6 : decode cX5_homeBehind 6 = .ok (.invokevirtual 285, 3) := by decide +kernel
theorem dX5_homeBehind_9 : decode cX5_homeBehind 9 = .ok (.aload_n 0, 1) := by decide +kernel
theorem dX5_homeBehind_10 : decode cX5_homeBehind 10 = .ok (.invokevirtual 288, 3) := by decide +kernel
theorem dX5_homeBehind_13 : decode cX5_homeBehind 13 = .ok (.istore_n 2, 1) := by decide +kernel
theorem dX5_homeBehind_14 : decode cX5_homeBehind 14 = .ok (.aload_n 0, 1) := by decide +kernel
theorem dX5_homeBehind_15 : decode cX5_homeBehind 15 = .ok (.invokevirtual 291, 3) := by decide +kernel
theorem dX5_homeBehind_18 : decode cX5_homeBehind 18 = .ok (.iload_n 2, 1) := by decide +kernel
theorem dX5_homeBehind_19 : decode cX5_homeBehind 19 = .ok (.ireturn, 1) := by decide +kernel
theorem dX5_run_0 : decode cX5_run 0 = .ok (.aload_n 0, 1) := by decide +kernel
theorem dX5_run_1 : decode cX5_run 1 = .ok (.iload_n 1, 1) := by decide +kernel
theorem dX5_run_2 : decode cX5_run 2 = .ok (.invokevirtual 87, 3) := by decide +kernel
theorem dX5_run_5 : decode cX5_run 5 = .ok (.ifCond .eq 27, 3) := by decide +kernel
theorem dX5_run_8 : decode cX5_run 8 = .ok (.iload_n 2, 1) := by decide +kernel
theorem dX5_run_9 : decode cX5_run 9 = .ok (.i2l, 1) := by decide +kernel
theorem dX5_run_10 : decode cX5_run 10 = .ok (.lconst 0, 1) := by decide +kernel
theorem dX5_run_11 : decode cX5_run 11 = .ok (.ldc2_w 294, 3) := by decide +kernel
theorem dX5_run_14 : decode cX5_run 14 = .ok (.invokestatic 76, 3) := by decide +kernel
theorem dX5_run_17 : decode cX5_run 17 = .ok (.ifCond .eq 15, 3) := by decide +kernel
theorem dX5_run_20 : decode cX5_run 20 = .ok (.iload_n 3, 1) := by decide +kernel
theorem dX5_run_21 : decode cX5_run 21 = .ok (.i2l, 1) := by decide +kernel
theorem dX5_run_22 : decode cX5_run 22 = .ok (.lconst 0, 1) := by decide +kernel
theorem dX5_run_23 : decode cX5_run 23 = .ok (.ldc2_w 90, 3) := by decide +kernel
theorem dX5_run_26 : decode cX5_run 26 = .ok (.invokestatic 76, 3) := by decide +kernel
theorem dX5_run_29 : decode cX5_run 29 = .ok (.ifCond .ne 6, 3) := by decide +kernel
theorem dX5_run_32 : decode cX5_run 32 = .ok (.bipush (-2), 2) := by decide +kernel
theorem dX5_run_34 : decode cX5_run 34 = .ok (.ireturn, 1) := by decide +kernel
theorem dX5_run_35 : decode cX5_run 35 = .ok (.aload_n 0, 1) := by decide +kernel
theorem dX5_run_36 : decode cX5_run 36 = .ok (.invokevirtual 282, 3) := by decide +kernel
theorem dX5_run_39 : decode cX5_run 39 = .ok (.aload_n 0, 1) := by decide +kernel
theorem dX5_run_40 : decode cX5_run 40 = .ok (.iload_n 2, 1) := by decide +kernel
theorem dX5_run_41 : decode cX5_run 41 = .ok (.invokevirtual 285, 3) := by decide +kernel
theorem dX5_run_44 : decode cX5_run 44 = .ok (.iconst 5, 1) := by decide +kernel
theorem dX5_run_45 : decode cX5_run 45 = .ok (.iload_n 1, 1) := by decide +kernel
theorem dX5_run_46 : decode cX5_run 46 = .ok (.imul, 1) := by decide +kernel
theorem dX5_run_47 : decode cX5_run 47 = .ok (.istore 4, 2) := by decide +kernel
theorem dX5_run_49 : decode cX5_run 49 = .ok (.iload_n 3, 1) := by decide +kernel
theorem dX5_run_50 : decode cX5_run 50 = .ok (.ifCond .ne 15, 3) := by decide +kernel
theorem dX5_run_53 : decode cX5_run 53 = .ok (.aload_n 0, 1) := by decide +kernel
theorem dX5_run_54 : decode cX5_run 54 = .ok (.getfield 29, 3) := by decide +kernel
theorem dX5_run_57 : decode cX5_run 57 = .ok (.iload 4, 2) := by decide +kernel
theorem dX5_run_59 : decode cX5_run 59 = .ok (.iconst 3, 1) := by decide +kernel
theorem dX5_run_60 : decode cX5_run 60 = .ok (.iadd, 1) := by decide +kernel
theorem dX5_run_61 : decode cX5_run 61 = .ok (.iaload, 1) := by decide +kernel
theorem dX5_run_62 : decode cX5_run 62 = .ok (.goto 39, 3) := by decide +kernel
theorem dX5_run_65 : decode cX5_run 65 = .ok (.iload_n 3, 1) := by decide +kernel
theorem dX5_run_66 : decode cX5_run 66 = .ok (.iconst 1, 1) := by decide +kernel
theorem dX5_run_67 : decode cX5_run 67 = .ok (.if_icmp .ne 13, 3) := by decide +kernel
theorem dX5_run_70 : decode cX5_run 70 = .ok (.aload_n 0, 1) := by decide +kernel
theorem dX5_run_71 : decode cX5_run 71 = .ok (.getfield 29, 3) := by decide +kernel
theorem dX5_run_74 : decode cX5_run 74 = .ok (.iload 4, 2) := by decide +kernel
theorem dX5_run_76 : decode cX5_run 76 = .ok (.iaload, 1) := by decide +kernel
theorem dX5_run_77 : decode cX5_run 77 = .ok (.goto 24, 3) := by decide +kernel
theorem dX5_run_80 : decode cX5_run 80 = .ok (.iload_n 3, 1) := by decide +kernel
theorem dX5_run_81 : decode cX5_run 81 = .ok (.iconst 2, 1) := by decide +kernel
theorem dX5_run_82 : decode cX5_run 82 = .ok (.if_icmp .ne 15, 3) := by decide +kernel
theorem dX5_run_85 : decode cX5_run 85 = .ok (.aload_n 0, 1) := by decide +kernel
theorem dX5_run_86 : decode cX5_run 86 = .ok (.getfield 29, 3) := by decide +kernel
theorem dX5_run_89 : decode cX5_run 89 = .ok (.iload 4, 2) := by decide +kernel
theorem dX5_run_91 : decode cX5_run 91 = .ok (.iconst 4, 1) := by decide +kernel
theorem dX5_run_92 : decode cX5_run 92 = .ok (.iadd, 1) := by decide +kernel
theorem dX5_run_93 : decode cX5_run 93 = .ok (.iaload, 1) := by decide +kernel
theorem dX5_run_94 : decode cX5_run 94 = .ok (.goto 7, 3) := by decide +kernel
theorem dX5_run_97 : decode cX5_run 97 = .ok (.aload_n 0, 1) := by decide +kernel
theorem dX5_run_98 : decode cX5_run 98 = .ok (.invokevirtual 288, 3) := by decide +kernel
theorem dX5_run_101 : decode cX5_run 101 = .ok (.istore 5, 2) := by decide +kernel
theorem dX5_run_103 : decode cX5_run 103 = .ok (.aload_n 0, 1) := by decide +kernel
theorem dX5_run_104 : decode cX5_run 104 = .ok (.invokevirtual 291, 3) := by decide +kernel
theorem dX5_run_107 : decode cX5_run 107 = .ok (.iload 5, 2) := by decide +kernel
theorem dX5_run_109 : decode cX5_run 109 = .ok (.ireturn, 1) := by decide +kernel
theorem dX5_comes_0 : decode cX5_comes 0 = .ok (.aload_n 0, 1) := by decide +kernel
theorem dX5_comes_1 : decode cX5_comes 1 = .ok (.iload_n 1, 1) := by decide +kernel
theorem dX5_comes_2 : decode cX5_comes 2 = .ok (.invokevirtual 87, 3) := by decide +kernel
theorem dX5_comes_5 : decode cX5_comes 5 = .ok (.ifCond .ne 6, 3) := by decide +kernel
theorem dX5_comes_8 : decode cX5_comes 8 = .ok (.bipush (-2), 2) := by decide +kernel
theorem dX5_comes_10 : decode cX5_comes 10 = .ok (.ireturn, 1) := by decide +kernel
theorem dX5_comes_11 : decode cX5_comes 11 = .ok (.aload_n 0, 1) := by decide +kernel
theorem dX5_comes_12 : decode cX5_comes 12 = .ok (.invokevirtual 282, 3) := by decide +kernel
theorem dX5_comes_15 : decode cX5_comes 15 = .ok (.iconst 0, 1) := by decide +kernel
theorem dX5_comes_16 : decode cX5_comes 16 = .ok (.istore_n 2, 1) := by decide +kernel
theorem dX5_comes_17 : decode cX5_comes 17 = .ok (.iload_n 2, 1) := by decide +kernel
theorem dX5_comes_18 : decode cX5_comes 18 = .ok (.bipush 60, 2) := by decide +kernel
theorem dX5_comes_20 : decode cX5_comes 20 = .ok (.if_icmp .gt 27, 3) := by decide +kernel
theorem dX5_comes_23 : decode cX5_comes 23 = .ok (.aload_n 0, 1) := by decide +kernel
theorem dX5_comes_24 : decode cX5_comes 24 = .ok (.getfield 29, 3) := by decide +kernel
theorem dX5_comes_27 : decode cX5_comes 27 = .ok (.iconst 5, 1) := by decide +kernel
theorem dX5_comes_28 : decode cX5_comes 28 = .ok (.iload_n 1, 1) := by decide +kernel
theorem dX5_comes_29 : decode cX5_comes 29 = .ok (.imul, 1) := by decide +kernel
theorem dX5_comes_30 : decode cX5_comes 30 = .ok (.iconst 3, 1) := by decide +kernel
theorem dX5_comes_31 : decode cX5_comes 31 = .ok (.iadd, 1) := by decide +kernel
theorem dX5_comes_32 : decode cX5_comes 32 = .ok (.iaload, 1) := by decide +kernel
theorem dX5_comes_33 : decode cX5_comes 33 = .ok (.iconst (-1), 1) := by decide +kernel
theorem dX5_comes_34 : decode cX5_comes 34 = .ok (.if_icmp .eq 13, 3) := by decide +kernel
theorem dX5_comes_37 : decode cX5_comes 37 = .ok (.aload_n 0, 1) := by decide +kernel
theorem dX5_comes_38 : decode cX5_comes 38 = .ok (.invokevirtual 279, 3) := by decide +kernel
theorem dX5_comes_41 : decode cX5_comes 41 = .ok (.iinc 2 1, 3) := by decide +kernel
theorem dX5_comes_44 : decode cX5_comes 44 = .ok (.goto (-27), 3) := by decide +kernel
theorem dX5_comes_47 : decode cX5_comes 47 = .ok (.aload_n 0, 1) := by decide +kernel
theorem dX5_comes_48 : decode cX5_comes 48 = .ok (.invokevirtual 291, 3) := by decide +kernel
theorem dX5_comes_51 : decode cX5_comes 51 = .ok (.iload_n 2, 1) := by decide +kernel
theorem dX5_comes_52 : decode cX5_comes 52 = .ok (.bipush 60, 2) := by decide +kernel
theorem dX5_comes_54 : decode cX5_comes 54 = .ok (.if_icmp .le 7, 3) := by decide +kernel
theorem dX5_comes_57 : decode cX5_comes 57 = .ok (.iconst (-1), 1) := by decide +kernel
theorem dX5_comes_58 : decode cX5_comes 58 = .ok (.goto 4, 3) := by decide +kernel
theorem dX5_comes_61 : decode cX5_comes 61 = .ok (.iload_n 2, 1) := by decide +kernel
theorem dX5_comes_62 : decode cX5_comes 62 = .ok (.ireturn, 1) := by decide +kernel
theorem dX5_homeBySlip_0 : decode cX5_homeBySlip 0 = .ok (.aload_n 0, 1) := by decide +kernel
theorem dX5_homeBySlip_1 : decode cX5_homeBySlip 1 = .ok (.invokevirtual 282, 3) := by decide +kernel
theorem dX5_homeBySlip_4 : decode cX5_homeBySlip 4 = .ok (.iconst 0, 1) := by decide +kernel
theorem dX5_homeBySlip_5 : decode cX5_homeBySlip 5 = .ok (.istore_n 3, 1) := by decide +kernel
theorem dX5_homeBySlip_6 : decode cX5_homeBySlip 6 = .ok (.iload_n 3, 1) := by decide +kernel
theorem dX5_homeBySlip_7 : decode cX5_homeBySlip 7 = .ok (.aload_n 0, 1) := by decide +kernel
theorem dX5_homeBySlip_8 : decode cX5_homeBySlip 8 = .ok (.getfield 80, 3) := by decide +kernel
theorem dX5_homeBySlip_11 : decode cX5_homeBySlip 11 = .ok (.if_icmp .ge 63, 3) := by decide +kernel
theorem dX5_homeBySlip_14 : decode cX5_homeBySlip 14 = .ok (.iconst 5, 1) := by decide +kernel
theorem dX5_homeBySlip_15 : decode cX5_homeBySlip 15 = .ok (.iload_n 3, 1) := by decide +kernel
theorem dX5_homeBySlip_16 : decode cX5_homeBySlip 16 = .ok (.imul, 1) := by decide +kernel
theorem dX5_homeBySlip_17 : decode cX5_homeBySlip 17 = .ok (.istore 4, 2) := by decide +kernel
theorem dX5_homeBySlip_19 : decode cX5_homeBySlip 19 = .ok (.aload_n 0, 1) := by decide +kernel
theorem dX5_homeBySlip_20 : decode cX5_homeBySlip 20 = .ok (.getfield 29, 3) := by decide +kernel
theorem dX5_homeBySlip_23 : decode cX5_homeBySlip 23 = .ok (.iload 4, 2) := by decide +kernel
theorem dX5_homeBySlip_25 : decode cX5_homeBySlip 25 = .ok (.iconst 3, 1) := by decide +kernel
theorem dX5_homeBySlip_26 : decode cX5_homeBySlip 26 = .ok (.iadd, 1) := by decide +kernel
theorem dX5_homeBySlip_27 : decode cX5_homeBySlip 27 = .ok (.aload_n 0, 1) := by decide +kernel
theorem dX5_homeBySlip_28 : decode cX5_homeBySlip 28 = .ok (.getfield 29, 3) := by decide +kernel
theorem dX5_homeBySlip_31 : decode cX5_homeBySlip 31 = .ok (.iload 4, 2) := by decide +kernel
theorem dX5_homeBySlip_33 : decode cX5_homeBySlip 33 = .ok (.iconst 3, 1) := by decide +kernel
theorem dX5_homeBySlip_34 : decode cX5_homeBySlip 34 = .ok (.iadd, 1) := by decide +kernel
theorem dX5_homeBySlip_35 : decode cX5_homeBySlip 35 = .ok (.iaload, 1) := by decide +kernel
theorem dX5_homeBySlip_36 : decode cX5_homeBySlip 36 = .ok (.iconst (-1), 1) := by decide +kernel
theorem dX5_homeBySlip_37 : decode cX5_homeBySlip 37 = .ok (.if_icmp .ne 7, 3) := by decide +kernel
theorem dX5_homeBySlip_40 : decode cX5_homeBySlip 40 = .ok (.iconst (-1), 1) := by decide +kernel
theorem dX5_homeBySlip_41 : decode cX5_homeBySlip 41 = .ok (.goto 26, 3) := by decide +kernel
theorem dX5_homeBySlip_44 : decode cX5_homeBySlip 44 = .ok (.aload_n 0, 1) := by decide +kernel
theorem dX5_homeBySlip_45 : decode cX5_homeBySlip 45 = .ok (.getfield 26, 3) := by decide +kernel
theorem dX5_homeBySlip_48 : decode cX5_homeBySlip 48 = .ok (.iconst 3, 1) := by decide +kernel
theorem dX5_homeBySlip_49 : decode cX5_homeBySlip 49 = .ok (.aload_n 0, 1) := by decide +kernel
theorem dX5_homeBySlip_50 : decode cX5_homeBySlip 50 = .ok (.getfield 29, 3) := by decide +kernel
theorem dX5_homeBySlip_53 : decode cX5_homeBySlip 53 = .ok (.iload 4, 2) := by decide +kernel
end
section
theorem dX5_homeBySlip_55 : decode cX5_homeBySlip 55 = .ok (.iconst 2, 1) := by decide +kernel
theorem dX5_homeBySlip_56 : decode cX5_homeBySlip 56 = .ok (.iadd, 1) := by decide +kernel
theorem dX5_homeBySlip_57 : decode cX5_homeBySlip 57 = .ok (.iaload, 1) := by decide +kernel
theorem dX5_homeBySlip_58 : decode cX5_homeBySlip 58 = .ok (.imul, 1) := by decide +kernel
theorem dX5_homeBySlip_59 : decode cX5_homeBySlip 59 = .ok (.iconst 2, 1) := by decide +kernel
theorem dX5_homeBySlip_60 : decode cX5_homeBySlip 60 = .ok (.iadd, 1) := by decide +kernel
theorem dX5_homeBySlip_61 : decode cX5_homeBySlip 61 = .ok (.iaload, 1) := by decide +kernel
theorem dX5_homeBySlip_62 : decode cX5_homeBySlip 62 = .ok (.iload_n 1, 1) := by decide +kernel
theorem dX5_homeBySlip_63 : decode cX5_homeBySlip 63 = .ok (.iadd, 1) := by decide +kernel
theorem dX5_homeBySlip_64 : decode cX5_homeBySlip 64 = .ok (.bipush 8, 2) := by decide +kernel
theorem dX5_homeBySlip_66 : decode cX5_homeBySlip 66 = .ok (.irem, 1) := by decide +kernel
theorem dX5_homeBySlip_67 : decode cX5_homeBySlip 67 = .ok (.iastore, 1) := by decide +kernel
theorem dX5_homeBySlip_68 : decode cX5_homeBySlip 68 = .ok (.iinc 3 1, 3) := by decide +kernel
theorem dX5_homeBySlip_71 : decode cX5_homeBySlip 71 = .ok (.goto (-65), 3) := by decide +kernel
theorem dX5_homeBySlip_74 : decode cX5_homeBySlip 74 = .ok (.aload_n 0, 1) := by decide +kernel
theorem dX5_homeBySlip_75 : decode cX5_homeBySlip 75 = .ok (.iload_n 2, 1) := by decide +kernel
theorem dX5_homeBySlip_76 : decode cX5_homeBySlip 76 = .ok (.invokevirtual 285, 3) := by decide +kernel
theorem dX5_homeBySlip_79 : decode cX5_homeBySlip 79 = .ok (.aload_n 0, 1) := by decide +kernel
theorem dX5_homeBySlip_80 : decode cX5_homeBySlip 80 = .ok (.invokevirtual 288, 3) := by decide +kernel
theorem dX5_homeBySlip_83 : decode cX5_homeBySlip 83 = .ok (.istore_n 3, 1) := by decide +kernel
theorem dX5_homeBySlip_84 : decode cX5_homeBySlip 84 = .ok (.aload_n 0, 1) := by decide +kernel
theorem dX5_homeBySlip_85 : decode cX5_homeBySlip 85 = .ok (.invokevirtual 291, 3) := by decide +kernel
theorem dX5_homeBySlip_88 : decode cX5_homeBySlip 88 = .ok (.iload_n 3, 1) := by decide +kernel
theorem dX5_homeBySlip_89 : decode cX5_homeBySlip 89 = .ok (.ireturn, 1) := by decide +kernel
theorem dX5_mistake_0 : decode cX5_mistake 0 = .ok (.iload_n 1, 1) := by decide +kernel
theorem dX5_mistake_1 : decode cX5_mistake 1 = .ok (.i2l, 1) := by decide +kernel
theorem dX5_mistake_2 : decode cX5_mistake 2 = .ok (.lconst 0, 1) := by decide +kernel
theorem dX5_mistake_3 : decode cX5_mistake 3 = .ok (.ldc2_w 294, 3) := by decide +kernel
theorem dX5_mistake_6 : decode cX5_mistake 6 = .ok (.invokestatic 76, 3) := by decide +kernel
theorem dX5_mistake_9 : decode cX5_mistake 9 = .ok (.ifCond .eq 13, 3) := by decide +kernel
theorem dX5_mistake_12 : decode cX5_mistake 12 = .ok (.iload_n 2, 1) := by decide +kernel
theorem dX5_mistake_13 : decode cX5_mistake 13 = .ok (.i2l, 1) := by decide +kernel
theorem dX5_mistake_14 : decode cX5_mistake 14 = .ok (.lconst 0, 1) := by decide +kernel
theorem dX5_mistake_15 : decode cX5_mistake 15 = .ok (.lconst 1, 1) := by decide +kernel
theorem dX5_mistake_16 : decode cX5_mistake 16 = .ok (.invokestatic 76, 3) := by decide +kernel
theorem dX5_mistake_19 : decode cX5_mistake 19 = .ok (.ifCond .ne 6, 3) := by decide +kernel
theorem dX5_mistake_22 : decode cX5_mistake 22 = .ok (.bipush (-2), 2) := by decide +kernel
theorem dX5_mistake_24 : decode cX5_mistake 24 = .ok (.ireturn, 1) := by decide +kernel
theorem dX5_mistake_25 : decode cX5_mistake 25 = .ok (.iconst 0, 1) := by decide +kernel
theorem dX5_mistake_26 : decode cX5_mistake 26 = .ok (.istore_n 3, 1) := by decide +kernel
theorem dX5_mistake_27 : decode cX5_mistake 27 = .ok (.iconst (-1), 1) := by decide +kernel
theorem dX5_mistake_28 : decode cX5_mistake 28 = .ok (.istore 4, 2) := by decide +kernel
theorem dX5_mistake_30 : decode cX5_mistake 30 = .ok (.iconst 0, 1) := by decide +kernel
theorem dX5_mistake_31 : decode cX5_mistake 31 = .ok (.istore 5, 2) := by decide +kernel
theorem dX5_mistake_33 : decode cX5_mistake 33 = .ok (.iload 5, 2) := by decide +kernel
theorem dX5_mistake_35 : decode cX5_mistake 35 = .ok (.bipush 8, 2) := by decide +kernel
theorem dX5_mistake_37 : decode cX5_mistake 37 = .ok (.if_icmp .ge 32, 3) := by decide +kernel
theorem dX5_mistake_40 : decode cX5_mistake 40 = .ok (.aload_n 0, 1) := by decide +kernel
theorem dX5_mistake_41 : decode cX5_mistake 41 = .ok (.iload 5, 2) := by decide +kernel
theorem dX5_mistake_43 : decode cX5_mistake 43 = .ok (.iload_n 1, 1) := by decide +kernel
theorem dX5_mistake_44 : decode cX5_mistake 44 = .ok (.invokevirtual 296, 3) := by decide +kernel
theorem dX5_mistake_47 : decode cX5_mistake 47 = .ok (.istore 6, 2) := by decide +kernel
theorem dX5_mistake_49 : decode cX5_mistake 49 = .ok (.iload 6, 2) := by decide +kernel
theorem dX5_mistake_51 : decode cX5_mistake 51 = .ok (.iload 4, 2) := by decide +kernel
theorem dX5_mistake_53 : decode cX5_mistake 53 = .ok (.if_icmp .le 10, 3) := by decide +kernel
theorem dX5_mistake_56 : decode cX5_mistake 56 = .ok (.iload 5, 2) := by decide +kernel
theorem dX5_mistake_58 : decode cX5_mistake 58 = .ok (.istore_n 3, 1) := by decide +kernel
theorem dX5_mistake_59 : decode cX5_mistake 59 = .ok (.iload 6, 2) := by decide +kernel
theorem dX5_mistake_61 : decode cX5_mistake 61 = .ok (.istore 4, 2) := by decide +kernel
theorem dX5_mistake_63 : decode cX5_mistake 63 = .ok (.iinc 5 1, 3) := by decide +kernel
theorem dX5_mistake_66 : decode cX5_mistake 66 = .ok (.goto (-33), 3) := by decide +kernel
theorem dX5_mistake_69 : decode cX5_mistake 69 = .ok (.iload_n 2, 1) := by decide +kernel
theorem dX5_mistake_70 : decode cX5_mistake 70 = .ok (.ifCond .ne 7, 3) := by decide +kernel
theorem dX5_mistake_73 : decode cX5_mistake 73 = .ok (.iload_n 3, 1) := by decide +kernel
theorem dX5_mistake_74 : decode cX5_mistake 74 = .ok (.goto 5, 3) := by decide +kernel
theorem dX5_mistake_77 : decode cX5_mistake 77 = .ok (.iload 4, 2) := by decide +kernel
theorem dX5_mistake_79 : decode cX5_mistake 79 = .ok (.ireturn, 1) := by decide +kernel
theorem dX5_wayOf_0 : decode cX5_wayOf 0 = .ok (.iconst 0, 1) := by decide +kernel
theorem dX5_wayOf_1 : decode cX5_wayOf 1 = .ok (.istore_n 2, 1) := by decide +kernel
theorem dX5_wayOf_2 : decode cX5_wayOf 2 = .ok (.iconst 0, 1) := by decide +kernel
theorem dX5_wayOf_3 : decode cX5_wayOf 3 = .ok (.istore_n 3, 1) := by decide +kernel
theorem dX5_wayOf_4 : decode cX5_wayOf 4 = .ok (.iload_n 1, 1) := by decide +kernel
theorem dX5_wayOf_5 : decode cX5_wayOf 5 = .ok (.istore 4, 2) := by decide +kernel
theorem dX5_wayOf_7 : decode cX5_wayOf 7 = .ok (.aload_n 0, 1) := by decide +kernel
theorem dX5_wayOf_8 : decode cX5_wayOf 8 = .ok (.getfield 73, 3) := by decide +kernel
theorem dX5_wayOf_11 : decode cX5_wayOf 11 = .ok (.iconst 1, 1) := by decide +kernel
theorem dX5_wayOf_12 : decode cX5_wayOf 12 = .ok (.isub, 1) := by decide +kernel
theorem dX5_wayOf_13 : decode cX5_wayOf 13 = .ok (.istore 5, 2) := by decide +kernel
theorem dX5_wayOf_15 : decode cX5_wayOf 15 = .ok (.iload 5, 2) := by decide +kernel
theorem dX5_wayOf_17 : decode cX5_wayOf 17 = .ok (.ifCond .lt 37, 3) := by decide +kernel
theorem dX5_wayOf_20 : decode cX5_wayOf 20 = .ok (.aload_n 0, 1) := by decide +kernel
theorem dX5_wayOf_21 : decode cX5_wayOf 21 = .ok (.getfield 38, 3) := by decide +kernel
theorem dX5_wayOf_24 : decode cX5_wayOf 24 = .ok (.iload 5, 2) := by decide +kernel
theorem dX5_wayOf_26 : decode cX5_wayOf 26 = .ok (.aload_n 0, 1) := by decide +kernel
theorem dX5_wayOf_27 : decode cX5_wayOf 27 = .ok (.getfield 35, 3) := by decide +kernel
theorem dX5_wayOf_30 : decode cX5_wayOf 30 = .ok (.iload 4, 2) := by decide +kernel
theorem dX5_wayOf_32 : decode cX5_wayOf 32 = .ok (.aload_n 0, 1) := by decide +kernel
theorem dX5_wayOf_33 : decode cX5_wayOf 33 = .ok (.getfield 73, 3) := by decide +kernel
theorem dX5_wayOf_36 : decode cX5_wayOf 36 = .ok (.irem, 1) := by decide +kernel
theorem dX5_wayOf_37 : decode cX5_wayOf 37 = .ok (.iaload, 1) := by decide +kernel
theorem dX5_wayOf_38 : decode cX5_wayOf 38 = .ok (.iastore, 1) := by decide +kernel
theorem dX5_wayOf_39 : decode cX5_wayOf 39 = .ok (.iload 4, 2) := by decide +kernel
theorem dX5_wayOf_41 : decode cX5_wayOf 41 = .ok (.aload_n 0, 1) := by decide +kernel
theorem dX5_wayOf_42 : decode cX5_wayOf 42 = .ok (.getfield 73, 3) := by decide +kernel
theorem dX5_wayOf_45 : decode cX5_wayOf 45 = .ok (.idiv, 1) := by decide +kernel
theorem dX5_wayOf_46 : decode cX5_wayOf 46 = .ok (.istore 4, 2) := by decide +kernel
theorem dX5_wayOf_48 : decode cX5_wayOf 48 = .ok (.iinc 5 (-1), 3) := by decide +kernel
theorem dX5_wayOf_51 : decode cX5_wayOf 51 = .ok (.goto (-36), 3) := by decide +kernel
theorem dX5_wayOf_54 : decode cX5_wayOf 54 = .ok (.iconst 0, 1) := by decide +kernel
theorem dX5_wayOf_55 : decode cX5_wayOf 55 = .ok (.istore 5, 2) := by decide +kernel
theorem dX5_wayOf_57 : decode cX5_wayOf 57 = .ok (.iload 5, 2) := by decide +kernel
theorem dX5_wayOf_59 : decode cX5_wayOf 59 = .ok (.aload_n 0, 1) := by decide +kernel
theorem dX5_wayOf_60 : decode cX5_wayOf 60 = .ok (.getfield 73, 3) := by decide +kernel
theorem dX5_wayOf_63 : decode cX5_wayOf 63 = .ok (.if_icmp .ge 36, 3) := by decide +kernel
theorem dX5_wayOf_66 : decode cX5_wayOf 66 = .ok (.iload_n 3, 1) := by decide +kernel
theorem dX5_wayOf_67 : decode cX5_wayOf 67 = .ok (.iconst 1, 1) := by decide +kernel
theorem dX5_wayOf_68 : decode cX5_wayOf 68 = .ok (.aload_n 0, 1) := by decide +kernel
theorem dX5_wayOf_69 : decode cX5_wayOf 69 = .ok (.getfield 38, 3) := by decide +kernel
theorem dX5_wayOf_72 : decode cX5_wayOf 72 = .ok (.iload 5, 2) := by decide +kernel
theorem dX5_wayOf_74 : decode cX5_wayOf 74 = .ok (.iaload, 1) := by decide +kernel
theorem dX5_wayOf_75 : decode cX5_wayOf 75 = .ok (.ishl, 1) := by decide +kernel
theorem dX5_wayOf_76 : decode cX5_wayOf 76 = .ok (.ior, 1) := by decide +kernel
theorem dX5_wayOf_77 : decode cX5_wayOf 77 = .ok (.istore_n 3, 1) := by decide +kernel
theorem dX5_wayOf_78 : decode cX5_wayOf 78 = .ok (.bipush 10, 2) := by decide +kernel
theorem dX5_wayOf_80 : decode cX5_wayOf 80 = .ok (.iload_n 2, 1) := by decide +kernel
theorem dX5_wayOf_81 : decode cX5_wayOf 81 = .ok (.imul, 1) := by decide +kernel
theorem dX5_wayOf_82 : decode cX5_wayOf 82 = .ok (.aload_n 0, 1) := by decide +kernel
theorem dX5_wayOf_83 : decode cX5_wayOf 83 = .ok (.getfield 38, 3) := by decide +kernel
theorem dX5_wayOf_86 : decode cX5_wayOf 86 = .ok (.iload 5, 2) := by decide +kernel
theorem dX5_wayOf_88 : decode cX5_wayOf 88 = .ok (.iaload, 1) := by decide +kernel
theorem dX5_wayOf_89 : decode cX5_wayOf 89 = .ok (.iadd, 1) := by decide +kernel
theorem dX5_wayOf_90 : decode cX5_wayOf 90 = .ok (.iconst 1, 1) := by decide +kernel
theorem dX5_wayOf_91 : decode cX5_wayOf 91 = .ok (.iadd, 1) := by decide +kernel
theorem dX5_wayOf_92 : decode cX5_wayOf 92 = .ok (.istore_n 2, 1) := by decide +kernel
theorem dX5_wayOf_93 : decode cX5_wayOf 93 = .ok (.iinc 5 1, 3) := by decide +kernel
theorem dX5_wayOf_96 : decode cX5_wayOf 96 = .ok (.goto (-39), 3) := by decide +kernel
theorem dX5_wayOf_99 : decode cX5_wayOf 99 = .ok (.iload_n 3, 1) := by decide +kernel
theorem dX5_wayOf_100 : decode cX5_wayOf 100 = .ok (.invokestatic 246, 3) := by decide +kernel
theorem dX5_wayOf_103 : decode cX5_wayOf 103 = .ok (.aload_n 0, 1) := by decide +kernel
theorem dX5_wayOf_104 : decode cX5_wayOf 104 = .ok (.getfield 73, 3) := by decide +kernel
theorem dX5_wayOf_107 : decode cX5_wayOf 107 = .ok (.if_icmp .ne 7, 3) := by decide +kernel
theorem dX5_wayOf_110 : decode cX5_wayOf 110 = .ok (.iload_n 2, 1) := by decide +kernel
theorem dX5_wayOf_111 : decode cX5_wayOf 111 = .ok (.goto 4, 3) := by decide +kernel
theorem dX5_wayOf_114 : decode cX5_wayOf 114 = .ok (.iconst (-1), 1) := by decide +kernel
theorem dX5_wayOf_115 : decode cX5_wayOf 115 = .ok (.ireturn, 1) := by decide +kernel
theorem dX5_live_0 : decode cX5_live 0 = .ok (.iload_n 1, 1) := by decide +kernel
theorem dX5_live_1 : decode cX5_live 1 = .ok (.i2l, 1) := by decide +kernel
theorem dX5_live_2 : decode cX5_live 2 = .ok (.lconst 0, 1) := by decide +kernel
theorem dX5_live_3 : decode cX5_live 3 = .ok (.ldc2_w 299, 3) := by decide +kernel
theorem dX5_live_6 : decode cX5_live 6 = .ok (.invokestatic 76, 3) := by decide +kernel
theorem dX5_live_9 : decode cX5_live 9 = .ok (.ifCond .eq 13, 3) := by decide +kernel
theorem dX5_live_12 : decode cX5_live 12 = .ok (.iload_n 2, 1) := by decide +kernel
theorem dX5_live_13 : decode cX5_live 13 = .ok (.i2l, 1) := by decide +kernel
theorem dX5_live_14 : decode cX5_live 14 = .ok (.lconst 0, 1) := by decide +kernel
theorem dX5_live_15 : decode cX5_live 15 = .ok (.lconst 1, 1) := by decide +kernel
theorem dX5_live_16 : decode cX5_live 16 = .ok (.invokestatic 76, 3) := by decide +kernel
theorem dX5_live_19 : decode cX5_live 19 = .ok (.ifCond .ne 6, 3) := by decide +kernel
theorem dX5_live_22 : decode cX5_live 22 = .ok (.bipush (-2), 2) := by decide +kernel
theorem dX5_live_24 : decode cX5_live 24 = .ok (.ireturn, 1) := by decide +kernel
theorem dX5_live_25 : decode cX5_live 25 = .ok (.iconst 0, 1) := by decide +kernel
theorem dX5_live_26 : decode cX5_live 26 = .ok (.istore_n 3, 1) := by decide +kernel
theorem dX5_live_27 : decode cX5_live 27 = .ok (.iconst 0, 1) := by decide +kernel
theorem dX5_live_28 : decode cX5_live 28 = .ok (.istore 4, 2) := by decide +kernel
theorem dX5_live_30 : decode cX5_live 30 = .ok (.iload 4, 2) := by decide +kernel
theorem dX5_live_32 : decode cX5_live 32 = .ok (.bipush 8, 2) := by decide +kernel
theorem dX5_live_34 : decode cX5_live 34 = .ok (.if_icmp .ge 30, 3) := by decide +kernel
theorem dX5_live_37 : decode cX5_live 37 = .ok (.aload_n 0, 1) := by decide +kernel
theorem dX5_live_38 : decode cX5_live 38 = .ok (.iload 4, 2) := by decide +kernel
theorem dX5_live_40 : decode cX5_live 40 = .ok (.invokevirtual 120, 3) := by decide +kernel
theorem dX5_live_43 : decode cX5_live 43 = .ok (.iconst (-1), 1) := by decide +kernel
theorem dX5_live_44 : decode cX5_live 44 = .ok (.if_icmp .eq 14, 3) := by decide +kernel
theorem dX5_live_47 : decode cX5_live 47 = .ok (.aload_n 0, 1) := by decide +kernel
theorem dX5_live_48 : decode cX5_live 48 = .ok (.getfield 35, 3) := by decide +kernel
theorem dX5_live_51 : decode cX5_live 51 = .ok (.iload_n 3, 1) := by decide +kernel
theorem dX5_live_52 : decode cX5_live 52 = .ok (.iload 4, 2) := by decide +kernel
theorem dX5_live_54 : decode cX5_live 54 = .ok (.iastore, 1) := by decide +kernel
theorem dX5_live_55 : decode cX5_live 55 = .ok (.iinc 3 1, 3) := by decide +kernel
theorem dX5_live_58 : decode cX5_live 58 = .ok (.iinc 4 1, 3) := by decide +kernel
theorem dX5_live_61 : decode cX5_live 61 = .ok (.goto (-31), 3) := by decide +kernel
theorem dX5_live_64 : decode cX5_live 64 = .ok (.iconst 0, 1) := by decide +kernel
theorem dX5_live_65 : decode cX5_live 65 = .ok (.istore 4, 2) := by decide +kernel
theorem dX5_live_67 : decode cX5_live 67 = .ok (.iload 4, 2) := by decide +kernel
theorem dX5_live_69 : decode cX5_live 69 = .ok (.bipush 15, 2) := by decide +kernel
theorem dX5_live_71 : decode cX5_live 71 = .ok (.if_icmp .ge 23, 3) := by decide +kernel
theorem dX5_live_74 : decode cX5_live 74 = .ok (.aload_n 0, 1) := by decide +kernel
theorem dX5_live_75 : decode cX5_live 75 = .ok (.getfield 41, 3) := by decide +kernel
theorem dX5_live_78 : decode cX5_live 78 = .ok (.iload 4, 2) := by decide +kernel
theorem dX5_live_80 : decode cX5_live 80 = .ok (.aload_n 0, 1) := by decide +kernel
theorem dX5_live_81 : decode cX5_live 81 = .ok (.getfield 26, 3) := by decide +kernel
theorem dX5_live_84 : decode cX5_live 84 = .ok (.iload 4, 2) := by decide +kernel
theorem dX5_live_86 : decode cX5_live 86 = .ok (.iaload, 1) := by decide +kernel
theorem dX5_live_87 : decode cX5_live 87 = .ok (.iastore, 1) := by decide +kernel
theorem dX5_live_88 : decode cX5_live 88 = .ok (.iinc 4 1, 3) := by decide +kernel
theorem dX5_live_91 : decode cX5_live 91 = .ok (.goto (-24), 3) := by decide +kernel
theorem dX5_live_94 : decode cX5_live 94 = .ok (.iconst 1, 1) := by decide +kernel
theorem dX5_live_95 : decode cX5_live 95 = .ok (.istore 4, 2) := by decide +kernel
theorem dX5_live_97 : decode cX5_live 97 = .ok (.iconst 0, 1) := by decide +kernel
theorem dX5_live_98 : decode cX5_live 98 = .ok (.istore 5, 2) := by decide +kernel
theorem dX5_live_100 : decode cX5_live 100 = .ok (.iload 5, 2) := by decide +kernel
theorem dX5_live_102 : decode cX5_live 102 = .ok (.aload_n 0, 1) := by decide +kernel
theorem dX5_live_103 : decode cX5_live 103 = .ok (.getfield 73, 3) := by decide +kernel
theorem dX5_live_106 : decode cX5_live 106 = .ok (.if_icmp .ge 18, 3) := by decide +kernel
theorem dX5_live_109 : decode cX5_live 109 = .ok (.iload 4, 2) := by decide +kernel
theorem dX5_live_111 : decode cX5_live 111 = .ok (.aload_n 0, 1) := by decide +kernel
theorem dX5_live_112 : decode cX5_live 112 = .ok (.getfield 73, 3) := by decide +kernel
theorem dX5_live_115 : decode cX5_live 115 = .ok (.imul, 1) := by decide +kernel
theorem dX5_live_116 : decode cX5_live 116 = .ok (.istore 4, 2) := by decide +kernel
theorem dX5_live_118 : decode cX5_live 118 = .ok (.iinc 5 1, 3) := by decide +kernel
theorem dX5_live_121 : decode cX5_live 121 = .ok (.goto (-21), 3) := by decide +kernel
theorem dX5_live_124 : decode cX5_live 124 = .ok (.iconst 0, 1) := by decide +kernel
theorem dX5_live_125 : decode cX5_live 125 = .ok (.istore 5, 2) := by decide +kernel
theorem dX5_live_127 : decode cX5_live 127 = .ok (.iconst (-1), 1) := by decide +kernel
theorem dX5_live_128 : decode cX5_live 128 = .ok (.istore 6, 2) := by decide +kernel
theorem dX5_live_130 : decode cX5_live 130 = .ok (.iconst 0, 1) := by decide +kernel
theorem dX5_live_131 : decode cX5_live 131 = .ok (.istore 7, 2) := by decide +kernel
theorem dX5_live_133 : decode cX5_live 133 = .ok (.iload 7, 2) := by decide +kernel
theorem dX5_live_135 : decode cX5_live 135 = .ok (.iload 4, 2) := by decide +kernel
theorem dX5_live_137 : decode cX5_live 137 = .ok (.if_icmp .ge 81, 3) := by decide +kernel
theorem dX5_live_140 : decode cX5_live 140 = .ok (.aload_n 0, 1) := by decide +kernel
theorem dX5_live_141 : decode cX5_live 141 = .ok (.iload 7, 2) := by decide +kernel
theorem dX5_live_143 : decode cX5_live 143 = .ok (.invokevirtual 301, 3) := by decide +kernel
theorem dX5_live_146 : decode cX5_live 146 = .ok (.istore 8, 2) := by decide +kernel
theorem dX5_live_148 : decode cX5_live 148 = .ok (.iload 8, 2) := by decide +kernel
theorem dX5_live_150 : decode cX5_live 150 = .ok (.iconst (-1), 1) := by decide +kernel
theorem dX5_live_151 : decode cX5_live 151 = .ok (.if_icmp .eq 61, 3) := by decide +kernel
theorem dX5_live_154 : decode cX5_live 154 = .ok (.iconst 0, 1) := by decide +kernel
theorem dX5_live_155 : decode cX5_live 155 = .ok (.istore 9, 2) := by decide +kernel
theorem dX5_live_157 : decode cX5_live 157 = .ok (.iload 9, 2) := by decide +kernel
theorem dX5_live_159 : decode cX5_live 159 = .ok (.aload_n 0, 1) := by decide +kernel
theorem dX5_live_160 : decode cX5_live 160 = .ok (.getfield 73, 3) := by decide +kernel
theorem dX5_live_163 : decode cX5_live 163 = .ok (.if_icmp .ge 27, 3) := by decide +kernel
theorem dX5_live_166 : decode cX5_live 166 = .ok (.aload_n 0, 1) := by decide +kernel
theorem dX5_live_167 : decode cX5_live 167 = .ok (.getfield 26, 3) := by decide +kernel
theorem dX5_live_170 : decode cX5_live 170 = .ok (.iconst 3, 1) := by decide +kernel
theorem dX5_live_171 : decode cX5_live 171 = .ok (.iload 9, 2) := by decide +kernel
theorem dX5_live_173 : decode cX5_live 173 = .ok (.imul, 1) := by decide +kernel
theorem dX5_live_174 : decode cX5_live 174 = .ok (.iconst 2, 1) := by decide +kernel
theorem dX5_live_175 : decode cX5_live 175 = .ok (.iadd, 1) := by decide +kernel
theorem dX5_live_176 : decode cX5_live 176 = .ok (.aload_n 0, 1) := by decide +kernel
theorem dX5_live_177 : decode cX5_live 177 = .ok (.getfield 38, 3) := by decide +kernel
theorem dX5_live_180 : decode cX5_live 180 = .ok (.iload 9, 2) := by decide +kernel
theorem dX5_live_182 : decode cX5_live 182 = .ok (.iaload, 1) := by decide +kernel
theorem dX5_live_183 : decode cX5_live 183 = .ok (.iastore, 1) := by decide +kernel
theorem dX5_live_184 : decode cX5_live 184 = .ok (.iinc 9 1, 3) := by decide +kernel
theorem dX5_live_187 : decode cX5_live 187 = .ok (.goto (-30), 3) := by decide +kernel
theorem dX5_live_190 : decode cX5_live 190 = .ok (.aload_n 0, 1) := by decide +kernel
theorem dX5_live_191 : decode cX5_live 191 = .ok (.iload_n 1, 1) := by decide +kernel
theorem dX5_live_192 : decode cX5_live 192 = .ok (.invokevirtual 304, 3) := by decide +kernel
theorem dX5_live_195 : decode cX5_live 195 = .ok (.istore 9, 2) := by decide +kernel
theorem dX5_live_197 : decode cX5_live 197 = .ok (.iload 9, 2) := by decide +kernel
theorem dX5_live_199 : decode cX5_live 199 = .ok (.iload 6, 2) := by decide +kernel
theorem dX5_live_201 : decode cX5_live 201 = .ok (.if_icmp .le 11, 3) := by decide +kernel
theorem dX5_live_204 : decode cX5_live 204 = .ok (.iload 8, 2) := by decide +kernel
theorem dX5_live_206 : decode cX5_live 206 = .ok (.istore 5, 2) := by decide +kernel
theorem dX5_live_208 : decode cX5_live 208 = .ok (.iload 9, 2) := by decide +kernel
theorem dX5_live_210 : decode cX5_live 210 = .ok (.istore 6, 2) := by decide +kernel
theorem dX5_live_212 : decode cX5_live 212 = .ok (.iinc 7 1, 3) := by decide +kernel
theorem dX5_live_215 : decode cX5_live 215 = .ok (.goto (-82), 3) := by decide +kernel
theorem dX5_live_218 : decode cX5_live 218 = .ok (.iconst 0, 1) := by decide +kernel
theorem dX5_live_219 : decode cX5_live 219 = .ok (.istore 7, 2) := by decide +kernel
theorem dX5_live_221 : decode cX5_live 221 = .ok (.iload 7, 2) := by decide +kernel
theorem dX5_live_223 : decode cX5_live 223 = .ok (.bipush 15, 2) := by decide +kernel
theorem dX5_live_225 : decode cX5_live 225 = .ok (.if_icmp .ge 23, 3) := by decide +kernel
theorem dX5_live_228 : decode cX5_live 228 = .ok (.aload_n 0, 1) := by decide +kernel
theorem dX5_live_229 : decode cX5_live 229 = .ok (.getfield 26, 3) := by decide +kernel
theorem dX5_live_232 : decode cX5_live 232 = .ok (.iload 7, 2) := by decide +kernel
theorem dX5_live_234 : decode cX5_live 234 = .ok (.aload_n 0, 1) := by decide +kernel
theorem dX5_live_235 : decode cX5_live 235 = .ok (.getfield 41, 3) := by decide +kernel
theorem dX5_live_238 : decode cX5_live 238 = .ok (.iload 7, 2) := by decide +kernel
theorem dX5_live_240 : decode cX5_live 240 = .ok (.iaload, 1) := by decide +kernel
theorem dX5_live_241 : decode cX5_live 241 = .ok (.iastore, 1) := by decide +kernel
theorem dX5_live_242 : decode cX5_live 242 = .ok (.iinc 7 1, 3) := by decide +kernel
theorem dX5_live_245 : decode cX5_live 245 = .ok (.goto (-24), 3) := by decide +kernel
theorem dX5_live_248 : decode cX5_live 248 = .ok (.iload_n 2, 1) := by decide +kernel
theorem dX5_live_249 : decode cX5_live 249 = .ok (.ifCond .ne 8, 3) := by decide +kernel
theorem dX5_live_252 : decode cX5_live 252 = .ok (.iload 5, 2) := by decide +kernel
theorem dX5_live_254 : decode cX5_live 254 = .ok (.goto 5, 3) := by decide +kernel
theorem dX5_live_257 : decode cX5_live 257 = .ok (.iload 6, 2) := by decide +kernel
theorem dX5_live_259 : decode cX5_live 259 = .ok (.ireturn, 1) := by decide +kernel
theorem dX5_hide_0 : decode cX5_hide 0 = .ok (.aload_n 0, 1) := by decide +kernel
theorem dX5_hide_1 : decode cX5_hide 1 = .ok (.iload_n 1, 1) := by decide +kernel
theorem dX5_hide_2 : decode cX5_hide 2 = .ok (.invokevirtual 87, 3) := by decide +kernel
theorem dX5_hide_5 : decode cX5_hide 5 = .ok (.ifCond .eq 34, 3) := by decide +kernel
theorem dX5_hide_8 : decode cX5_hide 8 = .ok (.aload_n 0, 1) := by decide +kernel
theorem dX5_hide_9 : decode cX5_hide 9 = .ok (.iload_n 2, 1) := by decide +kernel
theorem dX5_hide_10 : decode cX5_hide 10 = .ok (.invokevirtual 83, 3) := by decide +kernel
theorem dX5_hide_13 : decode cX5_hide 13 = .ok (.ifCond .eq 26, 3) := by decide +kernel
theorem dX5_hide_16 : decode cX5_hide 16 = .ok (.iload_n 3, 1) := by decide +kernel
theorem dX5_hide_17 : decode cX5_hide 17 = .ok (.i2l, 1) := by decide +kernel
theorem dX5_hide_18 : decode cX5_hide 18 = .ok (.lconst 0, 1) := by decide +kernel
theorem dX5_hide_19 : decode cX5_hide 19 = .ok (.ldc2_w 294, 3) := by decide +kernel
theorem dX5_hide_22 : decode cX5_hide 22 = .ok (.invokestatic 76, 3) := by decide +kernel
theorem dX5_hide_25 : decode cX5_hide 25 = .ok (.ifCond .eq 14, 3) := by decide +kernel
theorem dX5_hide_28 : decode cX5_hide 28 = .ok (.iload 4, 2) := by decide +kernel
theorem dX5_hide_30 : decode cX5_hide 30 = .ok (.i2l, 1) := by decide +kernel
theorem dX5_hide_31 : decode cX5_hide 31 = .ok (.lconst 0, 1) := by decide +kernel
theorem dX5_hide_32 : decode cX5_hide 32 = .ok (.lconst 1, 1) := by decide +kernel
theorem dX5_hide_33 : decode cX5_hide 33 = .ok (.invokestatic 76, 3) := by decide +kernel
theorem dX5_hide_36 : decode cX5_hide 36 = .ok (.ifCond .ne 6, 3) := by decide +kernel
theorem dX5_hide_39 : decode cX5_hide 39 = .ok (.bipush (-2), 2) := by decide +kernel
theorem dX5_hide_41 : decode cX5_hide 41 = .ok (.ireturn, 1) := by decide +kernel
theorem dX5_hide_42 : decode cX5_hide 42 = .ok (.iconst (-1), 1) := by decide +kernel
theorem dX5_hide_43 : decode cX5_hide 43 = .ok (.istore 5, 2) := by decide +kernel
theorem dX5_hide_45 : decode cX5_hide 45 = .ok (.iconst 0, 1) := by decide +kernel
theorem dX5_hide_46 : decode cX5_hide 46 = .ok (.istore 6, 2) := by decide +kernel
theorem dX5_hide_48 : decode cX5_hide 48 = .ok (.iload 6, 2) := by decide +kernel
theorem dX5_hide_50 : decode cX5_hide 50 = .ok (.iconst 1, 1) := by decide +kernel
theorem dX5_hide_51 : decode cX5_hide 51 = .ok (.aload_n 0, 1) := by decide +kernel
theorem dX5_hide_52 : decode cX5_hide 52 = .ok (.getfield 73, 3) := by decide +kernel
theorem dX5_hide_55 : decode cX5_hide 55 = .ok (.ishl, 1) := by decide +kernel
theorem dX5_hide_56 : decode cX5_hide 56 = .ok (.if_icmp .ge 57, 3) := by decide +kernel
theorem dX5_hide_59 : decode cX5_hide 59 = .ok (.iload 5, 2) := by decide +kernel
theorem dX5_hide_61 : decode cX5_hide 61 = .ok (.iconst (-1), 1) := by decide +kernel
theorem dX5_hide_62 : decode cX5_hide 62 = .ok (.if_icmp .eq 16, 3) := by decide +kernel
theorem dX5_hide_65 : decode cX5_hide 65 = .ok (.iload 6, 2) := by decide +kernel
theorem dX5_hide_67 : decode cX5_hide 67 = .ok (.invokestatic 246, 3) := by decide +kernel
theorem dX5_hide_70 : decode cX5_hide 70 = .ok (.iload 5, 2) := by decide +kernel
theorem dX5_hide_72 : decode cX5_hide 72 = .ok (.invokestatic 246, 3) := by decide +kernel
theorem dX5_hide_75 : decode cX5_hide 75 = .ok (.if_icmp .ge 32, 3) := by decide +kernel
theorem dX5_hide_78 : decode cX5_hide 78 = .ok (.aload_n 0, 1) := by decide +kernel
theorem dX5_hide_79 : decode cX5_hide 79 = .ok (.iload 6, 2) := by decide +kernel
theorem dX5_hide_81 : decode cX5_hide 81 = .ok (.putfield 253, 3) := by decide +kernel
theorem dX5_hide_84 : decode cX5_hide 84 = .ok (.aload_n 0, 1) := by decide +kernel
theorem dX5_hide_85 : decode cX5_hide 85 = .ok (.iload_n 1, 1) := by decide +kernel
theorem dX5_hide_86 : decode cX5_hide 86 = .ok (.iload_n 3, 1) := by decide +kernel
theorem dX5_hide_87 : decode cX5_hide 87 = .ok (.iconst 2, 1) := by decide +kernel
theorem dX5_hide_88 : decode cX5_hide 88 = .ok (.invokevirtual 307, 3) := by decide +kernel
theorem dX5_hide_91 : decode cX5_hide 91 = .ok (.iload_n 2, 1) := by decide +kernel
theorem dX5_hide_92 : decode cX5_hide 92 = .ok (.ishr, 1) := by decide +kernel
theorem dX5_hide_93 : decode cX5_hide 93 = .ok (.iconst 1, 1) := by decide +kernel
theorem dX5_hide_94 : decode cX5_hide 94 = .ok (.iand, 1) := by decide +kernel
theorem dX5_hide_95 : decode cX5_hide 95 = .ok (.ifCond .ne 8, 3) := by decide +kernel
theorem dX5_hide_98 : decode cX5_hide 98 = .ok (.iload 6, 2) := by decide +kernel
theorem dX5_hide_100 : decode cX5_hide 100 = .ok (.goto 5, 3) := by decide +kernel
theorem dX5_hide_103 : decode cX5_hide 103 = .ok (.iload 5, 2) := by decide +kernel
theorem dX5_hide_105 : decode cX5_hide 105 = .ok (.istore 5, 2) := by decide +kernel
theorem dX5_hide_107 : decode cX5_hide 107 = .ok (.iinc 6 1, 3) := by decide +kernel
theorem dX5_hide_110 : decode cX5_hide 110 = .ok (.goto (-62), 3) := by decide +kernel
theorem dX5_hide_113 : decode cX5_hide 113 = .ok (.aload_n 0, 1) := by decide +kernel
theorem dX5_hide_114 : decode cX5_hide 114 = .ok (.iconst 0, 1) := by decide +kernel
theorem dX5_hide_115 : decode cX5_hide 115 = .ok (.putfield 253, 3) := by decide +kernel
theorem dX5_hide_118 : decode cX5_hide 118 = .ok (.iload 4, 2) := by decide +kernel
theorem dX5_hide_120 : decode cX5_hide 120 = .ok (.ifCond .eq 9, 3) := by decide +kernel
theorem dX5_hide_123 : decode cX5_hide 123 = .ok (.iload 5, 2) := by decide +kernel
theorem dX5_hide_125 : decode cX5_hide 125 = .ok (.iconst (-1), 1) := by decide +kernel
theorem dX5_hide_126 : decode cX5_hide 126 = .ok (.if_icmp .ne 8, 3) := by decide +kernel
theorem dX5_hide_129 : decode cX5_hide 129 = .ok (.iload 5, 2) := by decide +kernel
theorem dX5_hide_131 : decode cX5_hide 131 = .ok (.goto 8, 3) := by decide +kernel
theorem dX5_hide_134 : decode cX5_hide 134 = .ok (.iload 5, 2) := by decide +kernel
theorem dX5_hide_136 : decode cX5_hide 136 = .ok (.invokestatic 246, 3) := by decide +kernel
theorem dX5_hide_139 : decode cX5_hide 139 = .ok (.ireturn, 1) := by decide +kernel
theorem dX5_tell_0 : decode cX5_tell 0 = .ok (.aload_n 0, 1) := by decide +kernel
theorem dX5_tell_1 : decode cX5_tell 1 = .ok (.iload_n 1, 1) := by decide +kernel
theorem dX5_tell_2 : decode cX5_tell 2 = .ok (.invokevirtual 83, 3) := by decide +kernel
theorem dX5_tell_5 : decode cX5_tell 5 = .ok (.ifCond .eq 33, 3) := by decide +kernel
theorem dX5_tell_8 : decode cX5_tell 8 = .ok (.iload_n 2, 1) := by decide +kernel
theorem dX5_tell_9 : decode cX5_tell 9 = .ok (.i2l, 1) := by decide +kernel
theorem dX5_tell_10 : decode cX5_tell 10 = .ok (.lconst 0, 1) := by decide +kernel
theorem dX5_tell_11 : decode cX5_tell 11 = .ok (.iconst 1, 1) := by decide +kernel
theorem dX5_tell_12 : decode cX5_tell 12 = .ok (.aload_n 0, 1) := by decide +kernel
theorem dX5_tell_13 : decode cX5_tell 13 = .ok (.getfield 73, 3) := by decide +kernel
theorem dX5_tell_16 : decode cX5_tell 16 = .ok (.ishl, 1) := by decide +kernel
theorem dX5_tell_17 : decode cX5_tell 17 = .ok (.iconst 1, 1) := by decide +kernel
theorem dX5_tell_18 : decode cX5_tell 18 = .ok (.isub, 1) := by decide +kernel
theorem dX5_tell_19 : decode cX5_tell 19 = .ok (.i2l, 1) := by decide +kernel
theorem dX5_tell_20 : decode cX5_tell 20 = .ok (.invokestatic 76, 3) := by decide +kernel
theorem dX5_tell_23 : decode cX5_tell 23 = .ok (.ifCond .eq 15, 3) := by decide +kernel
theorem dX5_tell_26 : decode cX5_tell 26 = .ok (.iload_n 3, 1) := by decide +kernel
theorem dX5_tell_27 : decode cX5_tell 27 = .ok (.i2l, 1) := by decide +kernel
theorem dX5_tell_28 : decode cX5_tell 28 = .ok (.lconst 0, 1) := by decide +kernel
theorem dX5_tell_29 : decode cX5_tell 29 = .ok (.ldc2_w 299, 3) := by decide +kernel
theorem dX5_tell_32 : decode cX5_tell 32 = .ok (.invokestatic 76, 3) := by decide +kernel
theorem dX5_tell_35 : decode cX5_tell 35 = .ok (.ifCond .ne 6, 3) := by decide +kernel
theorem dX5_tell_38 : decode cX5_tell 38 = .ok (.bipush (-2), 2) := by decide +kernel
theorem dX5_tell_40 : decode cX5_tell 40 = .ok (.ireturn, 1) := by decide +kernel
theorem dX5_tell_41 : decode cX5_tell 41 = .ok (.aload_n 0, 1) := by decide +kernel
theorem dX5_tell_42 : decode cX5_tell 42 = .ok (.getfield 80, 3) := by decide +kernel
theorem dX5_tell_45 : decode cX5_tell 45 = .ok (.bipush 8, 2) := by decide +kernel
theorem dX5_tell_47 : decode cX5_tell 47 = .ok (.if_icmp .ne 6, 3) := by decide +kernel
theorem dX5_tell_50 : decode cX5_tell 50 = .ok (.bipush (-4), 2) := by decide +kernel
theorem dX5_tell_52 : decode cX5_tell 52 = .ok (.ireturn, 1) := by decide +kernel
theorem dX5_tell_53 : decode cX5_tell 53 = .ok (.iconst (-1), 1) := by decide +kernel
theorem dX5_tell_54 : decode cX5_tell 54 = .ok (.istore 4, 2) := by decide +kernel
theorem dX5_tell_56 : decode cX5_tell 56 = .ok (.aload_n 0, 1) := by decide +kernel
theorem dX5_tell_57 : decode cX5_tell 57 = .ok (.getfield 73, 3) := by decide +kernel
theorem dX5_tell_60 : decode cX5_tell 60 = .ok (.iconst 1, 1) := by decide +kernel
theorem dX5_tell_61 : decode cX5_tell 61 = .ok (.isub, 1) := by decide +kernel
theorem dX5_tell_62 : decode cX5_tell 62 = .ok (.istore 5, 2) := by decide +kernel
theorem dX5_tell_64 : decode cX5_tell 64 = .ok (.iload 5, 2) := by decide +kernel
theorem dX5_tell_66 : decode cX5_tell 66 = .ok (.ifCond .lt 57, 3) := by decide +kernel
theorem dX5_tell_69 : decode cX5_tell 69 = .ok (.iload 5, 2) := by decide +kernel
theorem dX5_tell_71 : decode cX5_tell 71 = .ok (.iload_n 1, 1) := by decide +kernel
theorem dX5_tell_72 : decode cX5_tell 72 = .ok (.if_icmp .eq 45, 3) := by decide +kernel
theorem dX5_tell_75 : decode cX5_tell 75 = .ok (.aload_n 0, 1) := by decide +kernel
theorem dX5_tell_76 : decode cX5_tell 76 = .ok (.iload_n 1, 1) := by decide +kernel
theorem dX5_tell_77 : decode cX5_tell 77 = .ok (.iload 5, 2) := by decide +kernel
theorem dX5_tell_79 : decode cX5_tell 79 = .ok (.invokevirtual 268, 3) := by decide +kernel
theorem dX5_tell_82 : decode cX5_tell 82 = .ok (.aload_n 0, 1) := by decide +kernel
theorem dX5_tell_83 : decode cX5_tell 83 = .ok (.aload_n 0, 1) := by decide +kernel
theorem dX5_tell_84 : decode cX5_tell 84 = .ok (.getfield 80, 3) := by decide +kernel
theorem dX5_tell_87 : decode cX5_tell 87 = .ok (.iconst 1, 1) := by decide +kernel
theorem dX5_tell_88 : decode cX5_tell 88 = .ok (.isub, 1) := by decide +kernel
theorem dX5_tell_89 : decode cX5_tell 89 = .ok (.iload_n 3, 1) := by decide +kernel
theorem dX5_tell_90 : decode cX5_tell 90 = .ok (.iconst 2, 1) := by decide +kernel
theorem dX5_tell_91 : decode cX5_tell 91 = .ok (.invokevirtual 307, 3) := by decide +kernel
theorem dX5_tell_94 : decode cX5_tell 94 = .ok (.iload_n 2, 1) := by decide +kernel
theorem dX5_tell_95 : decode cX5_tell 95 = .ok (.if_icmp .ne 8, 3) := by decide +kernel
theorem dX5_tell_98 : decode cX5_tell 98 = .ok (.iload 5, 2) := by decide +kernel
theorem dX5_tell_100 : decode cX5_tell 100 = .ok (.goto 5, 3) := by decide +kernel
theorem dX5_tell_103 : decode cX5_tell 103 = .ok (.iload 4, 2) := by decide +kernel
theorem dX5_tell_105 : decode cX5_tell 105 = .ok (.istore 4, 2) := by decide +kernel
theorem dX5_tell_107 : decode cX5_tell 107 = .ok (.aload_n 0, 1) := by decide +kernel
theorem dX5_tell_108 : decode cX5_tell 108 = .ok (.dup, 1) := by decide +kernel
theorem dX5_tell_109 : decode cX5_tell 109 = .ok (.getfield 80, 3) := by decide +kernel
theorem dX5_tell_112 : decode cX5_tell 112 = .ok (.iconst 1, 1) := by decide +kernel
theorem dX5_tell_113 : decode cX5_tell 113 = .ok (.isub, 1) := by decide +kernel
theorem dX5_tell_114 : decode cX5_tell 114 = .ok (.putfield 80, 3) := by decide +kernel
theorem dX5_tell_117 : decode cX5_tell 117 = .ok (.iinc 5 (-1), 3) := by decide +kernel
theorem dX5_tell_120 : decode cX5_tell 120 = .ok (.goto (-56), 3) := by decide +kernel
theorem dX5_tell_123 : decode cX5_tell 123 = .ok (.iload 4, 2) := by decide +kernel
theorem dX5_tell_125 : decode cX5_tell 125 = .ok (.ireturn, 1) := by decide +kernel
theorem dX5_lowest_0 : decode cX5_lowest 0 = .ok (.lload_n 0, 1) := by decide +kernel
theorem dX5_lowest_1 : decode cX5_lowest 1 = .ok (.lstore 5, 2) := by decide +kernel
theorem dX5_lowest_3 : decode cX5_lowest 3 = .ok (.lload_n 2, 1) := by decide +kernel
theorem dX5_lowest_4 : decode cX5_lowest 4 = .ok (.lstore 7, 2) := by decide +kernel
theorem dX5_lowest_6 : decode cX5_lowest 6 = .ok (.lload 7, 2) := by decide +kernel
theorem dX5_lowest_8 : decode cX5_lowest 8 = .ok (.lconst 0, 1) := by decide +kernel
theorem dX5_lowest_9 : decode cX5_lowest 9 = .ok (.lcmp, 1) := by decide +kernel
theorem dX5_lowest_10 : decode cX5_lowest 10 = .ok (.ifCond .eq 21, 3) := by decide +kernel
theorem dX5_lowest_13 : decode cX5_lowest 13 = .ok (.lload 5, 2) := by decide +kernel
theorem dX5_lowest_15 : decode cX5_lowest 15 = .ok (.lload 7, 2) := by decide +kernel
theorem dX5_lowest_17 : decode cX5_lowest 17 = .ok (.lrem, 1) := by decide +kernel
theorem dX5_lowest_18 : decode cX5_lowest 18 = .ok (.lstore 9, 2) := by decide +kernel
theorem dX5_lowest_20 : decode cX5_lowest 20 = .ok (.lload 7, 2) := by decide +kernel
theorem dX5_lowest_22 : decode cX5_lowest 22 = .ok (.lstore 5, 2) := by decide +kernel
theorem dX5_lowest_24 : decode cX5_lowest 24 = .ok (.lload 9, 2) := by decide +kernel
theorem dX5_lowest_26 : decode cX5_lowest 26 = .ok (.lstore 7, 2) := by decide +kernel
theorem dX5_lowest_28 : decode cX5_lowest 28 = .ok (.goto (-22), 3) := by decide +kernel
theorem dX5_lowest_31 : decode cX5_lowest 31 = .ok (.iload 4, 2) := by decide +kernel
theorem dX5_lowest_33 : decode cX5_lowest 33 = .ok (.ifCond .ne 10, 3) := by decide +kernel
theorem dX5_lowest_36 : decode cX5_lowest 36 = .ok (.lload_n 0, 1) := by decide +kernel
theorem dX5_lowest_37 : decode cX5_lowest 37 = .ok (.lload 5, 2) := by decide +kernel
theorem dX5_lowest_39 : decode cX5_lowest 39 = .ok (.ldiv, 1) := by decide +kernel
theorem dX5_lowest_40 : decode cX5_lowest 40 = .ok (.goto 7, 3) := by decide +kernel
theorem dX5_lowest_43 : decode cX5_lowest 43 = .ok (.lload_n 2, 1) := by decide +kernel
theorem dX5_lowest_44 : decode cX5_lowest 44 = .ok (.lload 5, 2) := by decide +kernel
theorem dX5_lowest_46 : decode cX5_lowest 46 = .ok (.ldiv, 1) := by decide +kernel
theorem dX5_lowest_47 : decode cX5_lowest 47 = .ok (.lreturn, 1) := by decide +kernel
theorem dX5_mean_0 : decode cX5_mean 0 = .ok (.iload_n 1, 1) := by decide +kernel
theorem dX5_mean_1 : decode cX5_mean 1 = .ok (.i2l, 1) := by decide +kernel
theorem dX5_mean_2 : decode cX5_mean 2 = .ok (.lconst 0, 1) := by decide +kernel
theorem dX5_mean_3 : decode cX5_mean 3 = .ok (.lconst 1, 1) := by decide +kernel
theorem dX5_mean_4 : decode cX5_mean 4 = .ok (.invokestatic 76, 3) := by decide +kernel
theorem dX5_mean_7 : decode cX5_mean 7 = .ok (.ifCond .eq 10, 3) := by decide +kernel
theorem dX5_mean_10 : decode cX5_mean 10 = .ok (.aload_n 0, 1) := by decide +kernel
theorem dX5_mean_11 : decode cX5_mean 11 = .ok (.getfield 80, 3) := by decide +kernel
theorem dX5_mean_14 : decode cX5_mean 14 = .ok (.ifCond .ne 7, 3) := by decide +kernel
theorem dX5_mean_17 : decode cX5_mean 17 = .ok (.ldc2_w 310, 3) := by decide +kernel
theorem dX5_mean_20 : decode cX5_mean 20 = .ok (.lreturn, 1) := by decide +kernel
theorem dX5_mean_21 : decode cX5_mean 21 = .ok (.iconst 0, 1) := by decide +kernel
theorem dX5_mean_22 : decode cX5_mean 22 = .ok (.istore_n 2, 1) := by decide +kernel
theorem dX5_mean_23 : decode cX5_mean 23 = .ok (.iconst 0, 1) := by decide +kernel
theorem dX5_mean_24 : decode cX5_mean 24 = .ok (.istore_n 3, 1) := by decide +kernel
theorem dX5_mean_25 : decode cX5_mean 25 = .ok (.iload_n 3, 1) := by decide +kernel
theorem dX5_mean_26 : decode cX5_mean 26 = .ok (.aload_n 0, 1) := by decide +kernel
theorem dX5_mean_27 : decode cX5_mean 27 = .ok (.getfield 80, 3) := by decide +kernel
theorem dX5_mean_30 : decode cX5_mean 30 = .ok (.if_icmp .ge 20, 3) := by decide +kernel
theorem dX5_mean_33 : decode cX5_mean 33 = .ok (.iload_n 2, 1) := by decide +kernel
theorem dX5_mean_34 : decode cX5_mean 34 = .ok (.aload_n 0, 1) := by decide +kernel
theorem dX5_mean_35 : decode cX5_mean 35 = .ok (.getfield 29, 3) := by decide +kernel
theorem dX5_mean_38 : decode cX5_mean 38 = .ok (.iconst 5, 1) := by decide +kernel
theorem dX5_mean_39 : decode cX5_mean 39 = .ok (.iload_n 3, 1) := by decide +kernel
theorem dX5_mean_40 : decode cX5_mean 40 = .ok (.imul, 1) := by decide +kernel
theorem dX5_mean_41 : decode cX5_mean 41 = .ok (.iaload, 1) := by decide +kernel
theorem dX5_mean_42 : decode cX5_mean 42 = .ok (.iadd, 1) := by decide +kernel
theorem dX5_mean_43 : decode cX5_mean 43 = .ok (.istore_n 2, 1) := by decide +kernel
theorem dX5_mean_44 : decode cX5_mean 44 = .ok (.iinc 3 1, 3) := by decide +kernel
theorem dX5_mean_47 : decode cX5_mean 47 = .ok (.goto (-22), 3) := by decide +kernel
theorem dX5_mean_50 : decode cX5_mean 50 = .ok (.iload_n 2, 1) := by decide +kernel
theorem dX5_mean_51 : decode cX5_mean 51 = .ok (.i2l, 1) := by decide +kernel
theorem dX5_mean_52 : decode cX5_mean 52 = .ok (.aload_n 0, 1) := by decide +kernel
theorem dX5_mean_53 : decode cX5_mean 53 = .ok (.getfield 80, 3) := by decide +kernel
theorem dX5_mean_56 : decode cX5_mean 56 = .ok (.i2l, 1) := by decide +kernel
theorem dX5_mean_57 : decode cX5_mean 57 = .ok (.iload_n 1, 1) := by decide +kernel
theorem dX5_mean_58 : decode cX5_mean 58 = .ok (.invokestatic 312, 3) := by decide +kernel
theorem dX5_mean_61 : decode cX5_mean 61 = .ok (.lreturn, 1) := by decide +kernel
theorem dX5_firstOther_0 : decode cX5_firstOther 0 = .ok (.aload_n 0, 1) := by decide +kernel
theorem dX5_firstOther_1 : decode cX5_firstOther 1 = .ok (.invokevirtual 282, 3) := by decide +kernel
theorem dX5_firstOther_4 : decode cX5_firstOther 4 = .ok (.iconst (-1), 1) := by decide +kernel
theorem dX5_firstOther_5 : decode cX5_firstOther 5 = .ok (.istore_n 3, 1) := by decide +kernel
theorem dX5_firstOther_6 : decode cX5_firstOther 6 = .ok (.iconst 0, 1) := by decide +kernel
theorem dX5_firstOther_7 : decode cX5_firstOther 7 = .ok (.istore 4, 2) := by decide +kernel
theorem dX5_firstOther_9 : decode cX5_firstOther 9 = .ok (.iload 4, 2) := by decide +kernel
theorem dX5_firstOther_11 : decode cX5_firstOther 11 = .ok (.aload_n 0, 1) := by decide +kernel
theorem dX5_firstOther_12 : decode cX5_firstOther 12 = .ok (.getfield 60, 3) := by decide +kernel
theorem dX5_firstOther_15 : decode cX5_firstOther 15 = .ok (.iload_n 1, 1) := by decide +kernel
theorem dX5_firstOther_16 : decode cX5_firstOther 16 = .ok (.iaload, 1) := by decide +kernel
theorem dX5_firstOther_17 : decode cX5_firstOther 17 = .ok (.if_icmp .ge 50, 3) := by decide +kernel
theorem dX5_firstOther_20 : decode cX5_firstOther 20 = .ok (.iload_n 3, 1) := by decide +kernel
theorem dX5_firstOther_21 : decode cX5_firstOther 21 = .ok (.iconst (-1), 1) := by decide +kernel
theorem dX5_firstOther_22 : decode cX5_firstOther 22 = .ok (.if_icmp .ne 45, 3) := by decide +kernel
theorem dX5_firstOther_25 : decode cX5_firstOther 25 = .ok (.aload_n 0, 1) := by decide +kernel
theorem dX5_firstOther_26 : decode cX5_firstOther 26 = .ok (.invokevirtual 279, 3) := by decide +kernel
theorem dX5_firstOther_29 : decode cX5_firstOther 29 = .ok (.aload_n 0, 1) := by decide +kernel
theorem dX5_firstOther_30 : decode cX5_firstOther 30 = .ok (.getfield 29, 3) := by decide +kernel
theorem dX5_firstOther_33 : decode cX5_firstOther 33 = .ok (.iconst 5, 1) := by decide +kernel
theorem dX5_firstOther_34 : decode cX5_firstOther 34 = .ok (.iload_n 2, 1) := by decide +kernel
theorem dX5_firstOther_35 : decode cX5_firstOther 35 = .ok (.imul, 1) := by decide +kernel
theorem dX5_firstOther_36 : decode cX5_firstOther 36 = .ok (.iconst 3, 1) := by decide +kernel
theorem dX5_firstOther_37 : decode cX5_firstOther 37 = .ok (.iadd, 1) := by decide +kernel
theorem dX5_firstOther_38 : decode cX5_firstOther 38 = .ok (.iaload, 1) := by decide +kernel
theorem dX5_firstOther_39 : decode cX5_firstOther 39 = .ok (.aload_n 0, 1) := by decide +kernel
theorem dX5_firstOther_40 : decode cX5_firstOther 40 = .ok (.getfield 63, 3) := by decide +kernel
theorem dX5_firstOther_43 : decode cX5_firstOther 43 = .ok (.bipush 40, 2) := by decide +kernel
theorem dX5_firstOther_45 : decode cX5_firstOther 45 = .ok (.iload_n 1, 1) := by decide +kernel
theorem dX5_firstOther_46 : decode cX5_firstOther 46 = .ok (.imul, 1) := by decide +kernel
theorem dX5_firstOther_47 : decode cX5_firstOther 47 = .ok (.iload 4, 2) := by decide +kernel
theorem dX5_firstOther_49 : decode cX5_firstOther 49 = .ok (.iadd, 1) := by decide +kernel
theorem dX5_firstOther_50 : decode cX5_firstOther 50 = .ok (.iaload, 1) := by decide +kernel
theorem dX5_firstOther_51 : decode cX5_firstOther 51 = .ok (.if_icmp .ne 7, 3) := by decide +kernel
theorem dX5_firstOther_54 : decode cX5_firstOther 54 = .ok (.iconst (-1), 1) := by decide +kernel
theorem dX5_firstOther_55 : decode cX5_firstOther 55 = .ok (.goto 5, 3) := by decide +kernel
theorem dX5_firstOther_58 : decode cX5_firstOther 58 = .ok (.iload 4, 2) := by decide +kernel
theorem dX5_firstOther_60 : decode cX5_firstOther 60 = .ok (.istore_n 3, 1) := by decide +kernel
theorem dX5_firstOther_61 : decode cX5_firstOther 61 = .ok (.iinc 4 1, 3) := by decide +kernel
theorem dX5_firstOther_64 : decode cX5_firstOther 64 = .ok (.goto (-55), 3) := by decide +kernel
theorem dX5_firstOther_67 : decode cX5_firstOther 67 = .ok (.aload_n 0, 1) := by decide +kernel
theorem dX5_firstOther_68 : decode cX5_firstOther 68 = .ok (.invokevirtual 291, 3) := by decide +kernel
theorem dX5_firstOther_71 : decode cX5_firstOther 71 = .ok (.iload_n 3, 1) := by decide +kernel
theorem dX5_firstOther_72 : decode cX5_firstOther 72 = .ok (.ireturn, 1) := by decide +kernel
theorem dX5_likeSet_0 : decode cX5_likeSet 0 = .ok (.iconst 0, 1) := by decide +kernel
theorem dX5_likeSet_1 : decode cX5_likeSet 1 = .ok (.istore_n 2, 1) := by decide +kernel
theorem dX5_likeSet_2 : decode cX5_likeSet 2 = .ok (.iconst 0, 1) := by decide +kernel
theorem dX5_likeSet_3 : decode cX5_likeSet 3 = .ok (.istore_n 3, 1) := by decide +kernel
theorem dX5_likeSet_4 : decode cX5_likeSet 4 = .ok (.iload_n 3, 1) := by decide +kernel
theorem dX5_likeSet_5 : decode cX5_likeSet 5 = .ok (.aload_n 0, 1) := by decide +kernel
theorem dX5_likeSet_6 : decode cX5_likeSet 6 = .ok (.getfield 80, 3) := by decide +kernel
theorem dX5_likeSet_9 : decode cX5_likeSet 9 = .ok (.if_icmp .ge 29, 3) := by decide +kernel
theorem dX5_likeSet_12 : decode cX5_likeSet 12 = .ok (.iload_n 2, 1) := by decide +kernel
theorem dX5_likeSet_13 : decode cX5_likeSet 13 = .ok (.aload_n 0, 1) := by decide +kernel
theorem dX5_likeSet_14 : decode cX5_likeSet 14 = .ok (.iload_n 1, 1) := by decide +kernel
theorem dX5_likeSet_15 : decode cX5_likeSet 15 = .ok (.iload_n 3, 1) := by decide +kernel
theorem dX5_likeSet_16 : decode cX5_likeSet 16 = .ok (.invokevirtual 316, 3) := by decide +kernel
theorem dX5_likeSet_19 : decode cX5_likeSet 19 = .ok (.iconst (-1), 1) := by decide +kernel
theorem dX5_likeSet_20 : decode cX5_likeSet 20 = .ok (.if_icmp .ne 7, 3) := by decide +kernel
theorem dX5_likeSet_23 : decode cX5_likeSet 23 = .ok (.iconst 1, 1) := by decide +kernel
theorem dX5_likeSet_24 : decode cX5_likeSet 24 = .ok (.goto 4, 3) := by decide +kernel
theorem dX5_likeSet_27 : decode cX5_likeSet 27 = .ok (.iconst 0, 1) := by decide +kernel
theorem dX5_likeSet_28 : decode cX5_likeSet 28 = .ok (.iload_n 3, 1) := by decide +kernel
theorem dX5_likeSet_29 : decode cX5_likeSet 29 = .ok (.ishl, 1) := by decide +kernel
theorem dX5_likeSet_30 : decode cX5_likeSet 30 = .ok (.ior, 1) := by decide +kernel
theorem dX5_likeSet_31 : decode cX5_likeSet 31 = .ok (.istore_n 2, 1) := by decide +kernel
theorem dX5_likeSet_32 : decode cX5_likeSet 32 = .ok (.iinc 3 1, 3) := by decide +kernel
theorem dX5_likeSet_35 : decode cX5_likeSet 35 = .ok (.goto (-31), 3) := by decide +kernel
theorem dX5_likeSet_38 : decode cX5_likeSet 38 = .ok (.iload_n 2, 1) := by decide +kernel
theorem dX5_likeSet_39 : decode cX5_likeSet 39 = .ok (.ireturn, 1) := by decide +kernel
theorem dX5_tells_0 : decode cX5_tells 0 = .ok (.iload_n 1, 1) := by decide +kernel
theorem dX5_tells_1 : decode cX5_tells 1 = .ok (.invokestatic 319, 3) := by decide +kernel
theorem dX5_tells_4 : decode cX5_tells 4 = .ok (.ifCond .eq 32, 3) := by decide +kernel
theorem dX5_tells_7 : decode cX5_tells 7 = .ok (.aload_n 0, 1) := by decide +kernel
theorem dX5_tells_8 : decode cX5_tells 8 = .ok (.iload_n 2, 1) := by decide +kernel
theorem dX5_tells_9 : decode cX5_tells 9 = .ok (.invokevirtual 87, 3) := by decide +kernel
theorem dX5_tells_12 : decode cX5_tells 12 = .ok (.ifCond .eq 24, 3) := by decide +kernel
theorem dX5_tells_15 : decode cX5_tells 15 = .ok (.aload_n 0, 1) := by decide +kernel
theorem dX5_tells_16 : decode cX5_tells 16 = .ok (.iload_n 3, 1) := by decide +kernel
theorem dX5_tells_17 : decode cX5_tells 17 = .ok (.invokevirtual 83, 3) := by decide +kernel
theorem dX5_tells_20 : decode cX5_tells 20 = .ok (.ifCond .eq 16, 3) := by decide +kernel
theorem dX5_tells_23 : decode cX5_tells 23 = .ok (.iload 4, 2) := by decide +kernel
theorem dX5_tells_25 : decode cX5_tells 25 = .ok (.i2l, 1) := by decide +kernel
theorem dX5_tells_26 : decode cX5_tells 26 = .ok (.lconst 0, 1) := by decide +kernel
theorem dX5_tells_27 : decode cX5_tells 27 = .ok (.ldc2_w 322, 3) := by decide +kernel
theorem dX5_tells_30 : decode cX5_tells 30 = .ok (.invokestatic 76, 3) := by decide +kernel
theorem dX5_tells_33 : decode cX5_tells 33 = .ok (.ifCond .ne 6, 3) := by decide +kernel
theorem dX5_tells_36 : decode cX5_tells 36 = .ok (.bipush (-2), 2) := by decide +kernel
theorem dX5_tells_38 : decode cX5_tells 38 = .ok (.ireturn, 1) := by decide +kernel
theorem dX5_tells_39 : decode cX5_tells 39 = .ok (.aload_n 0, 1) := by decide +kernel
theorem dX5_tells_40 : decode cX5_tells 40 = .ok (.getfield 53, 3) := by decide +kernel
theorem dX5_tells_43 : decode cX5_tells 43 = .ok (.iload_n 1, 1) := by decide +kernel
theorem dX5_tells_44 : decode cX5_tells 44 = .ok (.baload, 1) := by decide +kernel
theorem dX5_tells_45 : decode cX5_tells 45 = .ok (.ifCond .ne 6, 3) := by decide +kernel
theorem dX5_tells_48 : decode cX5_tells 48 = .ok (.bipush (-11), 2) := by decide +kernel
theorem dX5_tells_50 : decode cX5_tells 50 = .ok (.ireturn, 1) := by decide +kernel
theorem dX5_tells_51 : decode cX5_tells 51 = .ok (.aload_n 0, 1) := by decide +kernel
theorem dX5_tells_52 : decode cX5_tells 52 = .ok (.getfield 60, 3) := by decide +kernel
theorem dX5_tells_55 : decode cX5_tells 55 = .ok (.iload_n 1, 1) := by decide +kernel
theorem dX5_tells_56 : decode cX5_tells 56 = .ok (.iaload, 1) := by decide +kernel
theorem dX5_tells_57 : decode cX5_tells 57 = .ok (.bipush 20, 2) := by decide +kernel
theorem dX5_tells_59 : decode cX5_tells 59 = .ok (.if_icmp .le 6, 3) := by decide +kernel
theorem dX5_tells_62 : decode cX5_tells 62 = .ok (.bipush (-2), 2) := by decide +kernel
theorem dX5_tells_64 : decode cX5_tells 64 = .ok (.ireturn, 1) := by decide +kernel
theorem dX5_tells_65 : decode cX5_tells 65 = .ok (.iload 4, 2) := by decide +kernel
theorem dX5_tells_67 : decode cX5_tells 67 = .ok (.ifCond .eq 10, 3) := by decide +kernel
theorem dX5_tells_70 : decode cX5_tells 70 = .ok (.iload 4, 2) := by decide +kernel
theorem dX5_tells_72 : decode cX5_tells 72 = .ok (.bipush 6, 2) := by decide +kernel
theorem dX5_tells_74 : decode cX5_tells 74 = .ok (.if_icmp .ne 23, 3) := by decide +kernel
theorem dX5_tells_77 : decode cX5_tells 77 = .ok (.iload 4, 2) := by decide +kernel
theorem dX5_tells_79 : decode cX5_tells 79 = .ok (.ifCond .ne 12, 3) := by decide +kernel
theorem dX5_tells_82 : decode cX5_tells 82 = .ok (.aload_n 0, 1) := by decide +kernel
theorem dX5_tells_83 : decode cX5_tells 83 = .ok (.iload_n 1, 1) := by decide +kernel
theorem dX5_tells_84 : decode cX5_tells 84 = .ok (.iload_n 2, 1) := by decide +kernel
theorem dX5_tells_85 : decode cX5_tells 85 = .ok (.invokevirtual 316, 3) := by decide +kernel
theorem dX5_tells_88 : decode cX5_tells 88 = .ok (.goto 8, 3) := by decide +kernel
theorem dX5_tells_91 : decode cX5_tells 91 = .ok (.aload_n 0, 1) := by decide +kernel
theorem dX5_tells_92 : decode cX5_tells 92 = .ok (.iload_n 1, 1) := by decide +kernel
theorem dX5_tells_93 : decode cX5_tells 93 = .ok (.invokevirtual 324, 3) := by decide +kernel
theorem dX5_tells_96 : decode cX5_tells 96 = .ok (.ireturn, 1) := by decide +kernel
theorem dX5_tells_97 : decode cX5_tells 97 = .ok (.iload 4, 2) := by decide +kernel
theorem dX5_tells_99 : decode cX5_tells 99 = .ok (.iconst 1, 1) := by decide +kernel
theorem dX5_tells_100 : decode cX5_tells 100 = .ok (.if_icmp .ne 7, 3) := by decide +kernel
theorem dX5_tells_103 : decode cX5_tells 103 = .ok (.iconst 4, 1) := by decide +kernel
theorem dX5_tells_104 : decode cX5_tells 104 = .ok (.goto 24, 3) := by decide +kernel
theorem dX5_tells_107 : decode cX5_tells 107 = .ok (.iload 4, 2) := by decide +kernel
theorem dX5_tells_109 : decode cX5_tells 109 = .ok (.iconst 2, 1) := by decide +kernel
theorem dX5_tells_110 : decode cX5_tells 110 = .ok (.if_icmp .ne 7, 3) := by decide +kernel
theorem dX5_tells_113 : decode cX5_tells 113 = .ok (.iconst 2, 1) := by decide +kernel
theorem dX5_tells_114 : decode cX5_tells 114 = .ok (.goto 14, 3) := by decide +kernel
theorem dX5_tells_117 : decode cX5_tells 117 = .ok (.iload 4, 2) := by decide +kernel
theorem dX5_tells_119 : decode cX5_tells 119 = .ok (.iconst 5, 1) := by decide +kernel
theorem dX5_tells_120 : decode cX5_tells 120 = .ok (.if_icmp .ne 7, 3) := by decide +kernel
theorem dX5_tells_123 : decode cX5_tells 123 = .ok (.iconst 5, 1) := by decide +kernel
theorem dX5_tells_124 : decode cX5_tells 124 = .ok (.goto 4, 3) := by decide +kernel
theorem dX5_tells_127 : decode cX5_tells 127 = .ok (.iconst 0, 1) := by decide +kernel
theorem dX5_tells_128 : decode cX5_tells 128 = .ok (.istore 5, 2) := by decide +kernel
theorem dX5_tells_130 : decode cX5_tells 130 = .ok (.iload 5, 2) := by decide +kernel
theorem dX5_tells_132 : decode cX5_tells 132 = .ok (.iconst 5, 1) := by decide +kernel
theorem dX5_tells_133 : decode cX5_tells 133 = .ok (.if_icmp .ne 10, 3) := by decide +kernel
theorem dX5_tells_136 : decode cX5_tells 136 = .ok (.aload_n 0, 1) := by decide +kernel
theorem dX5_tells_137 : decode cX5_tells 137 = .ok (.getfield 111, 3) := by decide +kernel
theorem dX5_tells_140 : decode cX5_tells 140 = .ok (.goto 10, 3) := by decide +kernel
theorem dX5_tells_143 : decode cX5_tells 143 = .ok (.aload_n 0, 1) := by decide +kernel
theorem dX5_tells_144 : decode cX5_tells 144 = .ok (.iload_n 3, 1) := by decide +kernel
theorem dX5_tells_145 : decode cX5_tells 145 = .ok (.iload 5, 2) := by decide +kernel
theorem dX5_tells_147 : decode cX5_tells 147 = .ok (.invokevirtual 100, 3) := by decide +kernel
theorem dX5_tells_150 : decode cX5_tells 150 = .ok (.istore 6, 2) := by decide +kernel
theorem dX5_tells_152 : decode cX5_tells 152 = .ok (.iload 5, 2) := by decide +kernel
theorem dX5_tells_154 : decode cX5_tells 154 = .ok (.iconst 5, 1) := by decide +kernel
theorem dX5_tells_155 : decode cX5_tells 155 = .ok (.if_icmp .ne 12, 3) := by decide +kernel
theorem dX5_tells_158 : decode cX5_tells 158 = .ok (.aload_n 0, 1) := by decide +kernel
theorem dX5_tells_159 : decode cX5_tells 159 = .ok (.getfield 70, 3) := by decide +kernel
theorem dX5_tells_162 : decode cX5_tells 162 = .ok (.iconst 1, 1) := by decide +kernel
theorem dX5_tells_163 : decode cX5_tells 163 = .ok (.isub, 1) := by decide +kernel
theorem dX5_tells_164 : decode cX5_tells 164 = .ok (.goto 26, 3) := by decide +kernel
theorem dX5_tells_167 : decode cX5_tells 167 = .ok (.iload 5, 2) := by decide +kernel
theorem dX5_tells_169 : decode cX5_tells 169 = .ok (.iconst 4, 1) := by decide +kernel
theorem dX5_tells_170 : decode cX5_tells 170 = .ok (.if_icmp .ne 7, 3) := by decide +kernel
theorem dX5_tells_173 : decode cX5_tells 173 = .ok (.iconst 5, 1) := by decide +kernel
theorem dX5_tells_174 : decode cX5_tells 174 = .ok (.goto 16, 3) := by decide +kernel
theorem dX5_tells_177 : decode cX5_tells 177 = .ok (.iload 5, 2) := by decide +kernel
theorem dX5_tells_179 : decode cX5_tells 179 = .ok (.iconst 2, 1) := by decide +kernel
theorem dX5_tells_180 : decode cX5_tells 180 = .ok (.if_icmp .ne 8, 3) := by decide +kernel
theorem dX5_tells_183 : decode cX5_tells 183 = .ok (.bipush 9, 2) := by decide +kernel
theorem dX5_tells_185 : decode cX5_tells 185 = .ok (.goto 5, 3) := by decide +kernel
theorem dX5_tells_188 : decode cX5_tells 188 = .ok (.bipush 99, 2) := by decide +kernel
theorem dX5_tells_190 : decode cX5_tells 190 = .ok (.istore 7, 2) := by decide +kernel
theorem dX5_tells_192 : decode cX5_tells 192 = .ok (.iconst 0, 1) := by decide +kernel
theorem dX5_tells_193 : decode cX5_tells 193 = .ok (.istore 8, 2) := by decide +kernel
theorem dX5_tells_195 : decode cX5_tells 195 = .ok (.iconst 0, 1) := by decide +kernel
theorem dX5_tells_196 : decode cX5_tells 196 = .ok (.istore 9, 2) := by decide +kernel
theorem dX5_tells_198 : decode cX5_tells 198 = .ok (.iconst (-1), 1) := by decide +kernel
theorem dX5_tells_199 : decode cX5_tells 199 = .ok (.istore 10, 2) := by decide +kernel
theorem dX5_tells_201 : decode cX5_tells 201 = .ok (.iload 7, 2) := by decide +kernel
theorem dX5_tells_203 : decode cX5_tells 203 = .ok (.istore 11, 2) := by decide +kernel
theorem dX5_tells_205 : decode cX5_tells 205 = .ok (.iload 11, 2) := by decide +kernel
theorem dX5_tells_207 : decode cX5_tells 207 = .ok (.ifCond .lt 55, 3) := by decide +kernel
theorem dX5_tells_210 : decode cX5_tells 210 = .ok (.aload_n 0, 1) := by decide +kernel
theorem dX5_tells_211 : decode cX5_tells 211 = .ok (.iload 5, 2) := by decide +kernel
theorem dX5_tells_213 : decode cX5_tells 213 = .ok (.iload_n 3, 1) := by decide +kernel
theorem dX5_tells_214 : decode cX5_tells 214 = .ok (.iload 11, 2) := by decide +kernel
theorem dX5_tells_216 : decode cX5_tells 216 = .ok (.invokevirtual 104, 3) := by decide +kernel
theorem dX5_tells_219 : decode cX5_tells 219 = .ok (.aload_n 0, 1) := by decide +kernel
theorem dX5_tells_220 : decode cX5_tells 220 = .ok (.iload_n 1, 1) := by decide +kernel
theorem dX5_tells_221 : decode cX5_tells 221 = .ok (.iload_n 2, 1) := by decide +kernel
theorem dX5_tells_222 : decode cX5_tells 222 = .ok (.invokevirtual 316, 3) := by decide +kernel
theorem dX5_tells_225 : decode cX5_tells 225 = .ok (.iconst (-1), 1) := by decide +kernel
theorem dX5_tells_226 : decode cX5_tells 226 = .ok (.if_icmp .ne 30, 3) := by decide +kernel
theorem dX5_tells_229 : decode cX5_tells 229 = .ok (.iload 8, 2) := by decide +kernel
theorem dX5_tells_231 : decode cX5_tells 231 = .ok (.iload 11, 2) := by decide +kernel
theorem dX5_tells_233 : decode cX5_tells 233 = .ok (.bipush 10, 2) := by decide +kernel
theorem dX5_tells_235 : decode cX5_tells 235 = .ok (.if_icmp .ge 10, 3) := by decide +kernel
theorem dX5_tells_238 : decode cX5_tells 238 = .ok (.iconst 1, 1) := by decide +kernel
theorem dX5_tells_239 : decode cX5_tells 239 = .ok (.iload 11, 2) := by decide +kernel
theorem dX5_tells_241 : decode cX5_tells 241 = .ok (.ishl, 1) := by decide +kernel
theorem dX5_tells_242 : decode cX5_tells 242 = .ok (.goto 4, 3) := by decide +kernel
theorem dX5_tells_245 : decode cX5_tells 245 = .ok (.iconst 0, 1) := by decide +kernel
theorem dX5_tells_246 : decode cX5_tells 246 = .ok (.ior, 1) := by decide +kernel
theorem dX5_tells_247 : decode cX5_tells 247 = .ok (.istore 8, 2) := by decide +kernel
theorem dX5_tells_249 : decode cX5_tells 249 = .ok (.iinc 9 1, 3) := by decide +kernel
theorem dX5_tells_252 : decode cX5_tells 252 = .ok (.iload 11, 2) := by decide +kernel
theorem dX5_tells_254 : decode cX5_tells 254 = .ok (.istore 10, 2) := by decide +kernel
theorem dX5_tells_256 : decode cX5_tells 256 = .ok (.iinc 11 (-1), 3) := by decide +kernel
theorem dX5_tells_259 : decode cX5_tells 259 = .ok (.goto (-54), 3) := by decide +kernel
theorem dX5_tells_262 : decode cX5_tells 262 = .ok (.aload_n 0, 1) := by decide +kernel
theorem dX5_tells_263 : decode cX5_tells 263 = .ok (.iload 5, 2) := by decide +kernel
theorem dX5_tells_265 : decode cX5_tells 265 = .ok (.iload_n 3, 1) := by decide +kernel
theorem dX5_tells_266 : decode cX5_tells 266 = .ok (.iload 6, 2) := by decide +kernel
theorem dX5_tells_268 : decode cX5_tells 268 = .ok (.invokevirtual 104, 3) := by decide +kernel
theorem dX5_tells_271 : decode cX5_tells 271 = .ok (.iload 4, 2) := by decide +kernel
theorem dX5_tells_273 : decode cX5_tells 273 = .ok (.iconst 3, 1) := by decide +kernel
theorem dX5_tells_274 : decode cX5_tells 274 = .ok (.if_icmp .ne 8, 3) := by decide +kernel
theorem dX5_tells_277 : decode cX5_tells 277 = .ok (.iload 9, 2) := by decide +kernel
theorem dX5_tells_279 : decode cX5_tells 279 = .ok (.goto 16, 3) := by decide +kernel
theorem dX5_tells_282 : decode cX5_tells 282 = .ok (.iload 4, 2) := by decide +kernel
theorem dX5_tells_284 : decode cX5_tells 284 = .ok (.iconst 4, 1) := by decide +kernel
theorem dX5_tells_285 : decode cX5_tells 285 = .ok (.if_icmp .ne 8, 3) := by decide +kernel
theorem dX5_tells_288 : decode cX5_tells 288 = .ok (.iload 10, 2) := by decide +kernel
theorem dX5_tells_290 : decode cX5_tells 290 = .ok (.goto 5, 3) := by decide +kernel
theorem dX5_tells_293 : decode cX5_tells 293 = .ok (.iload 8, 2) := by decide +kernel
theorem dX5_tells_295 : decode cX5_tells 295 = .ok (.ireturn, 1) := by decide +kernel
theorem dX5_film_0 : decode cX5_film 0 = .ok (.iload_n 1, 1) := by decide +kernel
theorem dX5_film_1 : decode cX5_film 1 = .ok (.invokestatic 319, 3) := by decide +kernel
theorem dX5_film_4 : decode cX5_film 4 = .ok (.ifCond .eq 23, 3) := by decide +kernel
theorem dX5_film_7 : decode cX5_film 7 = .ok (.aload_n 0, 1) := by decide +kernel
theorem dX5_film_8 : decode cX5_film 8 = .ok (.iload_n 2, 1) := by decide +kernel
theorem dX5_film_9 : decode cX5_film 9 = .ok (.invokevirtual 87, 3) := by decide +kernel
theorem dX5_film_12 : decode cX5_film 12 = .ok (.ifCond .eq 15, 3) := by decide +kernel
theorem dX5_film_15 : decode cX5_film 15 = .ok (.iload_n 3, 1) := by decide +kernel
theorem dX5_film_16 : decode cX5_film 16 = .ok (.i2l, 1) := by decide +kernel
theorem dX5_film_17 : decode cX5_film 17 = .ok (.lconst 0, 1) := by decide +kernel
theorem dX5_film_18 : decode cX5_film 18 = .ok (.ldc2_w 299, 3) := by decide +kernel
theorem dX5_film_21 : decode cX5_film 21 = .ok (.invokestatic 76, 3) := by decide +kernel
theorem dX5_film_24 : decode cX5_film 24 = .ok (.ifCond .ne 6, 3) := by decide +kernel
theorem dX5_film_27 : decode cX5_film 27 = .ok (.bipush (-2), 2) := by decide +kernel
theorem dX5_film_29 : decode cX5_film 29 = .ok (.ireturn, 1) := by decide +kernel
theorem dX5_film_30 : decode cX5_film 30 = .ok (.aload_n 0, 1) := by decide +kernel
theorem dX5_film_31 : decode cX5_film 31 = .ok (.iload_n 1, 1) := by decide +kernel
theorem dX5_film_32 : decode cX5_film 32 = .ok (.iconst 0, 1) := by decide +kernel
theorem dX5_film_33 : decode cX5_film 33 = .ok (.iload_n 3, 1) := by decide +kernel
theorem dX5_film_34 : decode cX5_film 34 = .ok (.invokevirtual 327, 3) := by decide +kernel
theorem dX5_film_37 : decode cX5_film 37 = .ok (.pop, 1) := by decide +kernel
theorem dX5_film_38 : decode cX5_film 38 = .ok (.aload_n 0, 1) := by decide +kernel
theorem dX5_film_39 : decode cX5_film 39 = .ok (.invokevirtual 282, 3) := by decide +kernel
theorem dX5_film_42 : decode cX5_film 42 = .ok (.iconst 0, 1) := by decide +kernel
theorem dX5_film_43 : decode cX5_film 43 = .ok (.istore 4, 2) := by decide +kernel
theorem dX5_film_45 : decode cX5_film 45 = .ok (.iload 4, 2) := by decide +kernel
theorem dX5_film_47 : decode cX5_film 47 = .ok (.iload_n 3, 1) := by decide +kernel
theorem dX5_film_48 : decode cX5_film 48 = .ok (.if_icmp .ge 35, 3) := by decide +kernel
theorem dX5_film_51 : decode cX5_film 51 = .ok (.aload_n 0, 1) := by decide +kernel
theorem dX5_film_52 : decode cX5_film 52 = .ok (.invokevirtual 279, 3) := by decide +kernel
theorem dX5_film_55 : decode cX5_film 55 = .ok (.aload_n 0, 1) := by decide +kernel
theorem dX5_film_56 : decode cX5_film 56 = .ok (.getfield 63, 3) := by decide +kernel
theorem dX5_film_59 : decode cX5_film 59 = .ok (.bipush 40, 2) := by decide +kernel
theorem dX5_film_61 : decode cX5_film 61 = .ok (.iload_n 1, 1) := by decide +kernel
theorem dX5_film_62 : decode cX5_film 62 = .ok (.imul, 1) := by decide +kernel
theorem dX5_film_63 : decode cX5_film 63 = .ok (.iload 4, 2) := by decide +kernel
theorem dX5_film_65 : decode cX5_film 65 = .ok (.iadd, 1) := by decide +kernel
theorem dX5_film_66 : decode cX5_film 66 = .ok (.aload_n 0, 1) := by decide +kernel
theorem dX5_film_67 : decode cX5_film 67 = .ok (.getfield 29, 3) := by decide +kernel
theorem dX5_film_70 : decode cX5_film 70 = .ok (.iconst 5, 1) := by decide +kernel
theorem dX5_film_71 : decode cX5_film 71 = .ok (.iload_n 2, 1) := by decide +kernel
theorem dX5_film_72 : decode cX5_film 72 = .ok (.imul, 1) := by decide +kernel
theorem dX5_film_73 : decode cX5_film 73 = .ok (.iconst 3, 1) := by decide +kernel
theorem dX5_film_74 : decode cX5_film 74 = .ok (.iadd, 1) := by decide +kernel
theorem dX5_film_75 : decode cX5_film 75 = .ok (.iaload, 1) := by decide +kernel
theorem dX5_film_76 : decode cX5_film 76 = .ok (.iastore, 1) := by decide +kernel
theorem dX5_film_77 : decode cX5_film 77 = .ok (.iinc 4 1, 3) := by decide +kernel
theorem dX5_film_80 : decode cX5_film 80 = .ok (.goto (-35), 3) := by decide +kernel
theorem dX5_film_83 : decode cX5_film 83 = .ok (.aload_n 0, 1) := by decide +kernel
theorem dX5_film_84 : decode cX5_film 84 = .ok (.invokevirtual 291, 3) := by decide +kernel
theorem dX5_film_87 : decode cX5_film 87 = .ok (.iload_n 3, 1) := by decide +kernel
theorem dX5_film_88 : decode cX5_film 88 = .ok (.ireturn, 1) := by decide +kernel
theorem dX5_homeDrawn_0 : decode cX5_homeDrawn 0 = .ok (.aload_n 0, 1) := by decide +kernel
theorem dX5_homeDrawn_1 : decode cX5_homeDrawn 1 = .ok (.invokevirtual 282, 3) := by decide +kernel
theorem dX5_homeDrawn_4 : decode cX5_homeDrawn 4 = .ok (.iload_n 1, 1) := by decide +kernel
theorem dX5_homeDrawn_5 : decode cX5_homeDrawn 5 = .ok (.istore_n 3, 1) := by decide +kernel
theorem dX5_homeDrawn_6 : decode cX5_homeDrawn 6 = .ok (.iconst 0, 1) := by decide +kernel
theorem dX5_homeDrawn_7 : decode cX5_homeDrawn 7 = .ok (.istore 4, 2) := by decide +kernel
theorem dX5_homeDrawn_9 : decode cX5_homeDrawn 9 = .ok (.iload 4, 2) := by decide +kernel
theorem dX5_homeDrawn_11 : decode cX5_homeDrawn 11 = .ok (.iload_n 2, 1) := by decide +kernel
theorem dX5_homeDrawn_12 : decode cX5_homeDrawn 12 = .ok (.if_icmp .ge 79, 3) := by decide +kernel
theorem dX5_homeDrawn_15 : decode cX5_homeDrawn 15 = .ok (.iload_n 3, 1) := by decide +kernel
theorem dX5_homeDrawn_16 : decode cX5_homeDrawn 16 = .ok (.ldc_w 330, 3) := by decide +kernel
theorem dX5_homeDrawn_19 : decode cX5_homeDrawn 19 = .ok (.imul, 1) := by decide +kernel
theorem dX5_homeDrawn_20 : decode cX5_homeDrawn 20 = .ok (.sipush 12345, 3) := by decide +kernel
theorem dX5_homeDrawn_23 : decode cX5_homeDrawn 23 = .ok (.iadd, 1) := by decide +kernel
theorem dX5_homeDrawn_24 : decode cX5_homeDrawn 24 = .ok (.istore_n 3, 1) := by decide +kernel
theorem dX5_homeDrawn_25 : decode cX5_homeDrawn 25 = .ok (.iload_n 3, 1) := by decide +kernel
theorem dX5_homeDrawn_26 : decode cX5_homeDrawn 26 = .ok (.bipush 9, 2) := by decide +kernel
theorem dX5_homeDrawn_28 : decode cX5_homeDrawn 28 = .ok (.iushr, 1) := by decide +kernel
theorem dX5_homeDrawn_29 : decode cX5_homeDrawn 29 = .ok (.bipush 8, 2) := by decide +kernel
theorem dX5_homeDrawn_31 : decode cX5_homeDrawn 31 = .ok (.irem, 1) := by decide +kernel
theorem dX5_homeDrawn_32 : decode cX5_homeDrawn 32 = .ok (.istore 5, 2) := by decide +kernel
theorem dX5_homeDrawn_34 : decode cX5_homeDrawn 34 = .ok (.iload_n 3, 1) := by decide +kernel
theorem dX5_homeDrawn_35 : decode cX5_homeDrawn 35 = .ok (.ldc_w 330, 3) := by decide +kernel
theorem dX5_homeDrawn_38 : decode cX5_homeDrawn 38 = .ok (.imul, 1) := by decide +kernel
theorem dX5_homeDrawn_39 : decode cX5_homeDrawn 39 = .ok (.sipush 12345, 3) := by decide +kernel
theorem dX5_homeDrawn_42 : decode cX5_homeDrawn 42 = .ok (.iadd, 1) := by decide +kernel
theorem dX5_homeDrawn_43 : decode cX5_homeDrawn 43 = .ok (.istore_n 3, 1) := by decide +kernel
theorem dX5_homeDrawn_44 : decode cX5_homeDrawn 44 = .ok (.iload_n 3, 1) := by decide +kernel
theorem dX5_homeDrawn_45 : decode cX5_homeDrawn 45 = .ok (.bipush 9, 2) := by decide +kernel
theorem dX5_homeDrawn_47 : decode cX5_homeDrawn 47 = .ok (.iushr, 1) := by decide +kernel
theorem dX5_homeDrawn_48 : decode cX5_homeDrawn 48 = .ok (.bipush 8, 2) := by decide +kernel
theorem dX5_homeDrawn_50 : decode cX5_homeDrawn 50 = .ok (.irem, 1) := by decide +kernel
theorem dX5_homeDrawn_51 : decode cX5_homeDrawn 51 = .ok (.istore 6, 2) := by decide +kernel
theorem dX5_homeDrawn_53 : decode cX5_homeDrawn 53 = .ok (.aload_n 0, 1) := by decide +kernel
theorem dX5_homeDrawn_54 : decode cX5_homeDrawn 54 = .ok (.iload 5, 2) := by decide +kernel
theorem dX5_homeDrawn_56 : decode cX5_homeDrawn 56 = .ok (.iload 6, 2) := by decide +kernel
theorem dX5_homeDrawn_58 : decode cX5_homeDrawn 58 = .ok (.invokevirtual 123, 3) := by decide +kernel
theorem dX5_homeDrawn_61 : decode cX5_homeDrawn 61 = .ok (.ifCond .eq 20, 3) := by decide +kernel
theorem dX5_homeDrawn_64 : decode cX5_homeDrawn 64 = .ok (.aload_n 0, 1) := by decide +kernel
theorem dX5_homeDrawn_65 : decode cX5_homeDrawn 65 = .ok (.getfield 80, 3) := by decide +kernel
theorem dX5_homeDrawn_68 : decode cX5_homeDrawn 68 = .ok (.bipush 8, 2) := by decide +kernel
theorem dX5_homeDrawn_70 : decode cX5_homeDrawn 70 = .ok (.if_icmp .ge 11, 3) := by decide +kernel
theorem dX5_homeDrawn_73 : decode cX5_homeDrawn 73 = .ok (.aload_n 0, 1) := by decide +kernel
theorem dX5_homeDrawn_74 : decode cX5_homeDrawn 74 = .ok (.iload 5, 2) := by decide +kernel
theorem dX5_homeDrawn_76 : decode cX5_homeDrawn 76 = .ok (.iload 6, 2) := by decide +kernel
theorem dX5_homeDrawn_78 : decode cX5_homeDrawn 78 = .ok (.invokevirtual 268, 3) := by decide +kernel
theorem dX5_homeDrawn_81 : decode cX5_homeDrawn 81 = .ok (.aload_n 0, 1) := by decide +kernel
theorem dX5_homeDrawn_82 : decode cX5_homeDrawn 82 = .ok (.invokevirtual 279, 3) := by decide +kernel
theorem dX5_homeDrawn_85 : decode cX5_homeDrawn 85 = .ok (.iinc 4 1, 3) := by decide +kernel
theorem dX5_homeDrawn_88 : decode cX5_homeDrawn 88 = .ok (.goto (-79), 3) := by decide +kernel
theorem dX5_homeDrawn_91 : decode cX5_homeDrawn 91 = .ok (.aload_n 0, 1) := by decide +kernel
theorem dX5_homeDrawn_92 : decode cX5_homeDrawn 92 = .ok (.invokevirtual 288, 3) := by decide +kernel
theorem dX5_homeDrawn_95 : decode cX5_homeDrawn 95 = .ok (.istore 4, 2) := by decide +kernel
theorem dX5_homeDrawn_97 : decode cX5_homeDrawn 97 = .ok (.aload_n 0, 1) := by decide +kernel
theorem dX5_homeDrawn_98 : decode cX5_homeDrawn 98 = .ok (.invokevirtual 291, 3) := by decide +kernel
theorem dX5_homeDrawn_101 : decode cX5_homeDrawn 101 = .ok (.iload 4, 2) := by decide +kernel
theorem dX5_homeDrawn_103 : decode cX5_homeDrawn 103 = .ok (.ireturn, 1) := by decide +kernel
theorem dX5_drawn_0 : decode cX5_drawn 0 = .ok (.iload_n 2, 1) := by decide +kernel
theorem dX5_drawn_1 : decode cX5_drawn 1 = .ok (.i2l, 1) := by decide +kernel
theorem dX5_drawn_2 : decode cX5_drawn 2 = .ok (.lconst 0, 1) := by decide +kernel
theorem dX5_drawn_3 : decode cX5_drawn 3 = .ok (.ldc2_w 294, 3) := by decide +kernel
theorem dX5_drawn_6 : decode cX5_drawn 6 = .ok (.invokestatic 76, 3) := by decide +kernel
theorem dX5_drawn_9 : decode cX5_drawn 9 = .ok (.ifCond .eq 12, 3) := by decide +kernel
theorem dX5_drawn_12 : decode cX5_drawn 12 = .ok (.aload_n 0, 1) := by decide +kernel
theorem dX5_drawn_13 : decode cX5_drawn 13 = .ok (.iload_n 1, 1) := by decide +kernel
theorem dX5_drawn_14 : decode cX5_drawn 14 = .ok (.iload_n 2, 1) := by decide +kernel
theorem dX5_drawn_15 : decode cX5_drawn 15 = .ok (.invokevirtual 331, 3) := by decide +kernel
theorem dX5_drawn_18 : decode cX5_drawn 18 = .ok (.goto 5, 3) := by decide +kernel
theorem dX5_drawn_21 : decode cX5_drawn 21 = .ok (.bipush (-2), 2) := by decide +kernel
theorem dX5_drawn_23 : decode cX5_drawn 23 = .ok (.ireturn, 1) := by decide +kernel
theorem dX5_chance_0 : decode cX5_chance 0 = .ok (.iload_n 2, 1) := by decide +kernel
theorem dX5_chance_1 : decode cX5_chance 1 = .ok (.i2l, 1) := by decide +kernel
theorem dX5_chance_2 : decode cX5_chance 2 = .ok (.lconst 1, 1) := by decide +kernel
theorem dX5_chance_3 : decode cX5_chance 3 = .ok (.ldc2_w 299, 3) := by decide +kernel
theorem dX5_chance_6 : decode cX5_chance 6 = .ok (.invokestatic 76, 3) := by decide +kernel
theorem dX5_chance_9 : decode cX5_chance 9 = .ok (.ifCond .eq 26, 3) := by decide +kernel
theorem dX5_chance_12 : decode cX5_chance 12 = .ok (.iload_n 3, 1) := by decide +kernel
theorem dX5_chance_13 : decode cX5_chance 13 = .ok (.i2l, 1) := by decide +kernel
theorem dX5_chance_14 : decode cX5_chance 14 = .ok (.lconst 0, 1) := by decide +kernel
theorem dX5_chance_15 : decode cX5_chance 15 = .ok (.ldc2_w 334, 3) := by decide +kernel
theorem dX5_chance_18 : decode cX5_chance 18 = .ok (.invokestatic 76, 3) := by decide +kernel
theorem dX5_chance_21 : decode cX5_chance 21 = .ok (.ifCond .eq 14, 3) := by decide +kernel
theorem dX5_chance_24 : decode cX5_chance 24 = .ok (.iload 4, 2) := by decide +kernel
theorem dX5_chance_26 : decode cX5_chance 26 = .ok (.i2l, 1) := by decide +kernel
theorem dX5_chance_27 : decode cX5_chance 27 = .ok (.lconst 0, 1) := by decide +kernel
theorem dX5_chance_28 : decode cX5_chance 28 = .ok (.lconst 1, 1) := by decide +kernel
theorem dX5_chance_29 : decode cX5_chance 29 = .ok (.invokestatic 76, 3) := by decide +kernel
theorem dX5_chance_32 : decode cX5_chance 32 = .ok (.ifCond .ne 7, 3) := by decide +kernel
theorem dX5_chance_35 : decode cX5_chance 35 = .ok (.ldc2_w 310, 3) := by decide +kernel
theorem dX5_chance_38 : decode cX5_chance 38 = .ok (.lreturn, 1) := by decide +kernel
theorem dX5_chance_39 : decode cX5_chance 39 = .ok (.lconst 0, 1) := by decide +kernel
theorem dX5_chance_40 : decode cX5_chance 40 = .ok (.lstore 5, 2) := by decide +kernel
theorem dX5_chance_42 : decode cX5_chance 42 = .ok (.iconst 0, 1) := by decide +kernel
theorem dX5_chance_43 : decode cX5_chance 43 = .ok (.istore 7, 2) := by decide +kernel
theorem dX5_chance_45 : decode cX5_chance 45 = .ok (.iload 7, 2) := by decide +kernel
theorem dX5_chance_47 : decode cX5_chance 47 = .ok (.iload_n 2, 1) := by decide +kernel
theorem dX5_chance_48 : decode cX5_chance 48 = .ok (.if_icmp .ge 33, 3) := by decide +kernel
theorem dX5_chance_51 : decode cX5_chance 51 = .ok (.lload 5, 2) := by decide +kernel
theorem dX5_chance_53 : decode cX5_chance 53 = .ok (.aload_n 0, 1) := by decide +kernel
theorem dX5_chance_54 : decode cX5_chance 54 = .ok (.iload_n 1, 1) := by decide +kernel
theorem dX5_chance_55 : decode cX5_chance 55 = .ok (.iload 7, 2) := by decide +kernel
theorem dX5_chance_57 : decode cX5_chance 57 = .ok (.iadd, 1) := by decide +kernel
theorem dX5_chance_58 : decode cX5_chance 58 = .ok (.bipush 10, 2) := by decide +kernel
theorem dX5_chance_60 : decode cX5_chance 60 = .ok (.invokevirtual 331, 3) := by decide +kernel
theorem dX5_chance_63 : decode cX5_chance 63 = .ok (.iload_n 3, 1) := by decide +kernel
theorem dX5_chance_64 : decode cX5_chance 64 = .ok (.if_icmp .lt 7, 3) := by decide +kernel
theorem dX5_chance_67 : decode cX5_chance 67 = .ok (.lconst 1, 1) := by decide +kernel
theorem dX5_chance_68 : decode cX5_chance 68 = .ok (.goto 4, 3) := by decide +kernel
theorem dX5_chance_71 : decode cX5_chance 71 = .ok (.lconst 0, 1) := by decide +kernel
theorem dX5_chance_72 : decode cX5_chance 72 = .ok (.ladd, 1) := by decide +kernel
theorem dX5_chance_73 : decode cX5_chance 73 = .ok (.lstore 5, 2) := by decide +kernel
theorem dX5_chance_75 : decode cX5_chance 75 = .ok (.iinc 7 1, 3) := by decide +kernel
theorem dX5_chance_78 : decode cX5_chance 78 = .ok (.goto (-33), 3) := by decide +kernel
theorem dX5_chance_81 : decode cX5_chance 81 = .ok (.lload 5, 2) := by decide +kernel
theorem dX5_chance_83 : decode cX5_chance 83 = .ok (.iload_n 2, 1) := by decide +kernel
theorem dX5_chance_84 : decode cX5_chance 84 = .ok (.i2l, 1) := by decide +kernel
theorem dX5_chance_85 : decode cX5_chance 85 = .ok (.iload 4, 2) := by decide +kernel
theorem dX5_chance_87 : decode cX5_chance 87 = .ok (.invokestatic 312, 3) := by decide +kernel
theorem dX5_chance_90 : decode cX5_chance 90 = .ok (.lreturn, 1) := by decide +kernel
theorem dX5_image_0 : decode cX5_image 0 = .ok (.iconst 0, 1) := by decide +kernel
theorem dX5_image_1 : decode cX5_image 1 = .ok (.istore_n 1, 1) := by decide +kernel
theorem dX5_image_2 : decode cX5_image 2 = .ok (.iload_n 1, 1) := by decide +kernel
theorem dX5_image_3 : decode cX5_image 3 = .ok (.bipush 15, 2) := by decide +kernel
theorem dX5_image_5 : decode cX5_image 5 = .ok (.if_icmp .ge 21, 3) := by decide +kernel
theorem dX5_image_8 : decode cX5_image 8 = .ok (.aload_n 0, 1) := by decide +kernel
theorem dX5_image_9 : decode cX5_image 9 = .ok (.getfield 44, 3) := by decide +kernel
theorem dX5_image_12 : decode cX5_image 12 = .ok (.iload_n 1, 1) := by decide +kernel
theorem dX5_image_13 : decode cX5_image 13 = .ok (.aload_n 0, 1) := by decide +kernel
theorem dX5_image_14 : decode cX5_image 14 = .ok (.getfield 26, 3) := by decide +kernel
theorem dX5_image_17 : decode cX5_image 17 = .ok (.iload_n 1, 1) := by decide +kernel
theorem dX5_image_18 : decode cX5_image 18 = .ok (.iaload, 1) := by decide +kernel
theorem dX5_image_19 : decode cX5_image 19 = .ok (.iastore, 1) := by decide +kernel
theorem dX5_image_20 : decode cX5_image 20 = .ok (.iinc 1 1, 3) := by decide +kernel
theorem dX5_image_23 : decode cX5_image 23 = .ok (.goto (-21), 3) := by decide +kernel
theorem dX5_image_26 : decode cX5_image 26 = .ok (.iconst 0, 1) := by decide +kernel
theorem dX5_image_27 : decode cX5_image 27 = .ok (.istore_n 1, 1) := by decide +kernel
theorem dX5_image_28 : decode cX5_image 28 = .ok (.iload_n 1, 1) := by decide +kernel
theorem dX5_image_29 : decode cX5_image 29 = .ok (.bipush 40, 2) := by decide +kernel
theorem dX5_image_31 : decode cX5_image 31 = .ok (.if_icmp .ge 21, 3) := by decide +kernel
theorem dX5_image_34 : decode cX5_image 34 = .ok (.aload_n 0, 1) := by decide +kernel
theorem dX5_image_35 : decode cX5_image 35 = .ok (.getfield 47, 3) := by decide +kernel
theorem dX5_image_38 : decode cX5_image 38 = .ok (.iload_n 1, 1) := by decide +kernel
theorem dX5_image_39 : decode cX5_image 39 = .ok (.aload_n 0, 1) := by decide +kernel
theorem dX5_image_40 : decode cX5_image 40 = .ok (.getfield 29, 3) := by decide +kernel
theorem dX5_image_43 : decode cX5_image 43 = .ok (.iload_n 1, 1) := by decide +kernel
theorem dX5_image_44 : decode cX5_image 44 = .ok (.iaload, 1) := by decide +kernel
theorem dX5_image_45 : decode cX5_image 45 = .ok (.iastore, 1) := by decide +kernel
theorem dX5_image_46 : decode cX5_image 46 = .ok (.iinc 1 1, 3) := by decide +kernel
theorem dX5_image_49 : decode cX5_image 49 = .ok (.goto (-21), 3) := by decide +kernel
theorem dX5_image_52 : decode cX5_image 52 = .ok (.aload_n 0, 1) := by decide +kernel
theorem dX5_image_53 : decode cX5_image 53 = .ok (.aload_n 0, 1) := by decide +kernel
theorem dX5_image_54 : decode cX5_image 54 = .ok (.getfield 73, 3) := by decide +kernel
theorem dX5_image_57 : decode cX5_image 57 = .ok (.putfield 50, 3) := by decide +kernel
theorem dX5_image_60 : decode cX5_image 60 = .ok (.aload_n 0, 1) := by decide +kernel
theorem dX5_image_61 : decode cX5_image 61 = .ok (.aload_n 0, 1) := by decide +kernel
theorem dX5_image_62 : decode cX5_image 62 = .ok (.getfield 80, 3) := by decide +kernel
theorem dX5_image_65 : decode cX5_image 65 = .ok (.putfield 336, 3) := by decide +kernel
theorem dX5_image_68 : decode cX5_image 68 = .ok (.aload_n 0, 1) := by decide +kernel
theorem dX5_image_69 : decode cX5_image 69 = .ok (.aload_n 0, 1) := by decide +kernel
theorem dX5_image_70 : decode cX5_image 70 = .ok (.getfield 108, 3) := by decide +kernel
theorem dX5_image_73 : decode cX5_image 73 = .ok (.putfield 339, 3) := by decide +kernel
theorem dX5_image_76 : decode cX5_image 76 = .ok (.aload_n 0, 1) := by decide +kernel
theorem dX5_image_77 : decode cX5_image 77 = .ok (.aload_n 0, 1) := by decide +kernel
theorem dX5_image_78 : decode cX5_image 78 = .ok (.getfield 23, 3) := by decide +kernel
theorem dX5_image_81 : decode cX5_image 81 = .ok (.putfield 342, 3) := by decide +kernel
theorem dX5_image_84 : decode cX5_image 84 = .ok (.aload_n 0, 1) := by decide +kernel
theorem dX5_image_85 : decode cX5_image 85 = .ok (.aload_n 0, 1) := by decide +kernel
theorem dX5_image_86 : decode cX5_image 86 = .ok (.getfield 111, 3) := by decide +kernel
theorem dX5_image_89 : decode cX5_image 89 = .ok (.putfield 345, 3) := by decide +kernel
theorem dX5_image_92 : decode cX5_image 92 = .ok (.aload_n 0, 1) := by decide +kernel
theorem dX5_image_93 : decode cX5_image 93 = .ok (.getfield 73, 3) := by decide +kernel
theorem dX5_image_96 : decode cX5_image 96 = .ok (.ireturn, 1) := by decide +kernel
theorem dX5_back_0 : decode cX5_back 0 = .ok (.aload_n 0, 1) := by decide +kernel
theorem dX5_back_1 : decode cX5_back 1 = .ok (.getfield 50, 3) := by decide +kernel
theorem dX5_back_4 : decode cX5_back 4 = .ok (.iconst (-1), 1) := by decide +kernel
theorem dX5_back_5 : decode cX5_back 5 = .ok (.if_icmp .ne 6, 3) := by decide +kernel
theorem dX5_back_8 : decode cX5_back 8 = .ok (.bipush (-3), 2) := by decide +kernel
theorem dX5_back_10 : decode cX5_back 10 = .ok (.ireturn, 1) := by decide +kernel
theorem dX5_back_11 : decode cX5_back 11 = .ok (.iconst 0, 1) := by decide +kernel
theorem dX5_back_12 : decode cX5_back 12 = .ok (.istore_n 1, 1) := by decide +kernel
theorem dX5_back_13 : decode cX5_back 13 = .ok (.iload_n 1, 1) := by decide +kernel
theorem dX5_back_14 : decode cX5_back 14 = .ok (.bipush 15, 2) := by decide +kernel
theorem dX5_back_16 : decode cX5_back 16 = .ok (.if_icmp .ge 21, 3) := by decide +kernel
theorem dX5_back_19 : decode cX5_back 19 = .ok (.aload_n 0, 1) := by decide +kernel
theorem dX5_back_20 : decode cX5_back 20 = .ok (.getfield 26, 3) := by decide +kernel
theorem dX5_back_23 : decode cX5_back 23 = .ok (.iload_n 1, 1) := by decide +kernel
theorem dX5_back_24 : decode cX5_back 24 = .ok (.aload_n 0, 1) := by decide +kernel
theorem dX5_back_25 : decode cX5_back 25 = .ok (.getfield 44, 3) := by decide +kernel
theorem dX5_back_28 : decode cX5_back 28 = .ok (.iload_n 1, 1) := by decide +kernel
theorem dX5_back_29 : decode cX5_back 29 = .ok (.iaload, 1) := by decide +kernel
theorem dX5_back_30 : decode cX5_back 30 = .ok (.iastore, 1) := by decide +kernel
theorem dX5_back_31 : decode cX5_back 31 = .ok (.iinc 1 1, 3) := by decide +kernel
theorem dX5_back_34 : decode cX5_back 34 = .ok (.goto (-21), 3) := by decide +kernel
theorem dX5_back_37 : decode cX5_back 37 = .ok (.iconst 0, 1) := by decide +kernel
theorem dX5_back_38 : decode cX5_back 38 = .ok (.istore_n 1, 1) := by decide +kernel
theorem dX5_back_39 : decode cX5_back 39 = .ok (.iload_n 1, 1) := by decide +kernel
theorem dX5_back_40 : decode cX5_back 40 = .ok (.bipush 40, 2) := by decide +kernel
theorem dX5_back_42 : decode cX5_back 42 = .ok (.if_icmp .ge 21, 3) := by decide +kernel
theorem dX5_back_45 : decode cX5_back 45 = .ok (.aload_n 0, 1) := by decide +kernel
theorem dX5_back_46 : decode cX5_back 46 = .ok (.getfield 29, 3) := by decide +kernel
theorem dX5_back_49 : decode cX5_back 49 = .ok (.iload_n 1, 1) := by decide +kernel
theorem dX5_back_50 : decode cX5_back 50 = .ok (.aload_n 0, 1) := by decide +kernel
theorem dX5_back_51 : decode cX5_back 51 = .ok (.getfield 47, 3) := by decide +kernel
theorem dX5_back_54 : decode cX5_back 54 = .ok (.iload_n 1, 1) := by decide +kernel
theorem dX5_back_55 : decode cX5_back 55 = .ok (.iaload, 1) := by decide +kernel
theorem dX5_back_56 : decode cX5_back 56 = .ok (.iastore, 1) := by decide +kernel
theorem dX5_back_57 : decode cX5_back 57 = .ok (.iinc 1 1, 3) := by decide +kernel
theorem dX5_back_60 : decode cX5_back 60 = .ok (.goto (-21), 3) := by decide +kernel
theorem dX5_back_63 : decode cX5_back 63 = .ok (.aload_n 0, 1) := by decide +kernel
theorem dX5_back_64 : decode cX5_back 64 = .ok (.aload_n 0, 1) := by decide +kernel
theorem dX5_back_65 : decode cX5_back 65 = .ok (.getfield 50, 3) := by decide +kernel
theorem dX5_back_68 : decode cX5_back 68 = .ok (.putfield 73, 3) := by decide +kernel
theorem dX5_back_71 : decode cX5_back 71 = .ok (.aload_n 0, 1) := by decide +kernel
theorem dX5_back_72 : decode cX5_back 72 = .ok (.aload_n 0, 1) := by decide +kernel
theorem dX5_back_73 : decode cX5_back 73 = .ok (.getfield 336, 3) := by decide +kernel
theorem dX5_back_76 : decode cX5_back 76 = .ok (.putfield 80, 3) := by decide +kernel
theorem dX5_back_79 : decode cX5_back 79 = .ok (.aload_n 0, 1) := by decide +kernel
theorem dX5_back_80 : decode cX5_back 80 = .ok (.aload_n 0, 1) := by decide +kernel
theorem dX5_back_81 : decode cX5_back 81 = .ok (.getfield 339, 3) := by decide +kernel
theorem dX5_back_84 : decode cX5_back 84 = .ok (.putfield 108, 3) := by decide +kernel
theorem dX5_back_87 : decode cX5_back 87 = .ok (.aload_n 0, 1) := by decide +kernel
theorem dX5_back_88 : decode cX5_back 88 = .ok (.aload_n 0, 1) := by decide +kernel
theorem dX5_back_89 : decode cX5_back 89 = .ok (.getfield 342, 3) := by decide +kernel
theorem dX5_back_92 : decode cX5_back 92 = .ok (.putfield 23, 3) := by decide +kernel
theorem dX5_back_95 : decode cX5_back 95 = .ok (.aload_n 0, 1) := by decide +kernel
theorem dX5_back_96 : decode cX5_back 96 = .ok (.aload_n 0, 1) := by decide +kernel
theorem dX5_back_97 : decode cX5_back 97 = .ok (.getfield 345, 3) := by decide +kernel
theorem dX5_back_100 : decode cX5_back 100 = .ok (.putfield 111, 3) := by decide +kernel
theorem dX5_back_103 : decode cX5_back 103 = .ok (.aload_n 0, 1) := by decide +kernel
theorem dX5_back_104 : decode cX5_back 104 = .ok (.getfield 73, 3) := by decide +kernel
theorem dX5_back_107 : decode cX5_back 107 = .ok (.ireturn, 1) := by decide +kernel
theorem dX5_count_0 : decode cX5_count 0 = .ok (.iload_n 1, 1) := by decide +kernel
theorem dX5_count_1 : decode cX5_count 1 = .ok (.i2l, 1) := by decide +kernel
theorem dX5_count_2 : decode cX5_count 2 = .ok (.lconst 0, 1) := by decide +kernel
theorem dX5_count_3 : decode cX5_count 3 = .ok (.ldc2_w 114, 3) := by decide +kernel
theorem dX5_count_6 : decode cX5_count 6 = .ok (.invokestatic 76, 3) := by decide +kernel
theorem dX5_count_9 : decode cX5_count 9 = .ok (.ifCond .ne 6, 3) := by decide +kernel
theorem dX5_count_12 : decode cX5_count 12 = .ok (.bipush (-2), 2) := by decide +kernel
theorem dX5_count_14 : decode cX5_count 14 = .ok (.ireturn, 1) := by decide +kernel
theorem dX5_count_15 : decode cX5_count 15 = .ok (.iload_n 1, 1) := by decide +kernel
theorem dX5_count_16 : decode cX5_count 16 = .ok (.ifCond .ne 10, 3) := by decide +kernel
theorem dX5_count_19 : decode cX5_count 19 = .ok (.aload_n 0, 1) := by decide +kernel
theorem dX5_count_20 : decode cX5_count 20 = .ok (.getfield 73, 3) := by decide +kernel
theorem dX5_count_23 : decode cX5_count 23 = .ok (.goto 55, 3) := by decide +kernel
theorem dX5_count_26 : decode cX5_count 26 = .ok (.iload_n 1, 1) := by decide +kernel
theorem dX5_count_27 : decode cX5_count 27 = .ok (.iconst 1, 1) := by decide +kernel
theorem dX5_count_28 : decode cX5_count 28 = .ok (.if_icmp .ne 10, 3) := by decide +kernel
theorem dX5_count_31 : decode cX5_count 31 = .ok (.aload_n 0, 1) := by decide +kernel
theorem dX5_count_32 : decode cX5_count 32 = .ok (.getfield 80, 3) := by decide +kernel
theorem dX5_count_35 : decode cX5_count 35 = .ok (.goto 43, 3) := by decide +kernel
theorem dX5_count_38 : decode cX5_count 38 = .ok (.iload_n 1, 1) := by decide +kernel
theorem dX5_count_39 : decode cX5_count 39 = .ok (.iconst 2, 1) := by decide +kernel
theorem dX5_count_40 : decode cX5_count 40 = .ok (.if_icmp .ne 10, 3) := by decide +kernel
theorem dX5_count_43 : decode cX5_count 43 = .ok (.aload_n 0, 1) := by decide +kernel
theorem dX5_count_44 : decode cX5_count 44 = .ok (.invokevirtual 288, 3) := by decide +kernel
theorem dX5_count_47 : decode cX5_count 47 = .ok (.goto 31, 3) := by decide +kernel
theorem dX5_count_50 : decode cX5_count 50 = .ok (.iload_n 1, 1) := by decide +kernel
theorem dX5_count_51 : decode cX5_count 51 = .ok (.iconst 3, 1) := by decide +kernel
theorem dX5_count_52 : decode cX5_count 52 = .ok (.if_icmp .ne 10, 3) := by decide +kernel
theorem dX5_count_55 : decode cX5_count 55 = .ok (.aload_n 0, 1) := by decide +kernel
theorem dX5_count_56 : decode cX5_count 56 = .ok (.getfield 70, 3) := by decide +kernel
theorem dX5_count_59 : decode cX5_count 59 = .ok (.goto 19, 3) := by decide +kernel
theorem dX5_count_62 : decode cX5_count 62 = .ok (.iload_n 1, 1) := by decide +kernel
theorem dX5_count_63 : decode cX5_count 63 = .ok (.iconst 4, 1) := by decide +kernel
theorem dX5_count_64 : decode cX5_count 64 = .ok (.if_icmp .ne 10, 3) := by decide +kernel
theorem dX5_count_67 : decode cX5_count 67 = .ok (.aload_n 0, 1) := by decide +kernel
theorem dX5_count_68 : decode cX5_count 68 = .ok (.getfield 133, 3) := by decide +kernel
theorem dX5_count_71 : decode cX5_count 71 = .ok (.goto 7, 3) := by decide +kernel
theorem dX5_count_74 : decode cX5_count 74 = .ok (.aload_n 0, 1) := by decide +kernel
theorem dX5_count_75 : decode cX5_count 75 = .ok (.getfield 111, 3) := by decide +kernel
theorem dX5_count_78 : decode cX5_count 78 = .ok (.ireturn, 1) := by decide +kernel
theorem dX5_isSheet_0 : decode cX5_isSheet 0 = .ok (.iload_n 0, 1) := by decide +kernel
theorem dX5_isSheet_1 : decode cX5_isSheet 1 = .ok (.i2l, 1) := by decide +kernel
theorem dX5_isSheet_2 : decode cX5_isSheet 2 = .ok (.lconst 0, 1) := by decide +kernel
theorem dX5_isSheet_3 : decode cX5_isSheet 3 = .ok (.ldc2_w 90, 3) := by decide +kernel
theorem dX5_isSheet_6 : decode cX5_isSheet 6 = .ok (.invokestatic 76, 3) := by decide +kernel
theorem dX5_isSheet_9 : decode cX5_isSheet 9 = .ok (.ireturn, 1) := by decide +kernel
theorem dX5_sheet_0 : decode cX5_sheet 0 = .ok (.iload_n 1, 1) := by decide +kernel
theorem dX5_sheet_1 : decode cX5_sheet 1 = .ok (.invokestatic 319, 3) := by decide +kernel
theorem dX5_sheet_4 : decode cX5_sheet 4 = .ok (.ifCond .eq 27, 3) := by decide +kernel
theorem dX5_sheet_7 : decode cX5_sheet 7 = .ok (.iload_n 2, 1) := by decide +kernel
theorem dX5_sheet_8 : decode cX5_sheet 8 = .ok (.i2l, 1) := by decide +kernel
theorem dX5_sheet_9 : decode cX5_sheet 9 = .ok (.ldc2_w 348, 3) := by decide +kernel
theorem dX5_sheet_12 : decode cX5_sheet 12 = .ok (.ldc2_w 350, 3) := by decide +kernel
theorem dX5_sheet_15 : decode cX5_sheet 15 = .ok (.invokestatic 76, 3) := by decide +kernel
theorem dX5_sheet_18 : decode cX5_sheet 18 = .ok (.ifCond .eq 13, 3) := by decide +kernel
theorem dX5_sheet_21 : decode cX5_sheet 21 = .ok (.iload_n 2, 1) := by decide +kernel
theorem dX5_sheet_22 : decode cX5_sheet 22 = .ok (.ifCond .lt 12, 3) := by decide +kernel
theorem dX5_sheet_25 : decode cX5_sheet 25 = .ok (.iload_n 3, 1) := by decide +kernel
theorem dX5_sheet_26 : decode cX5_sheet 26 = .ok (.bipush 40, 2) := by decide +kernel
theorem dX5_sheet_28 : decode cX5_sheet 28 = .ok (.if_icmp .le 6, 3) := by decide +kernel
theorem dX5_sheet_31 : decode cX5_sheet 31 = .ok (.bipush (-2), 2) := by decide +kernel
theorem dX5_sheet_33 : decode cX5_sheet 33 = .ok (.ireturn, 1) := by decide +kernel
theorem dX5_sheet_34 : decode cX5_sheet 34 = .ok (.iload_n 2, 1) := by decide +kernel
theorem dX5_sheet_35 : decode cX5_sheet 35 = .ok (.ifCond .lt 10, 3) := by decide +kernel
theorem dX5_sheet_38 : decode cX5_sheet 38 = .ok (.iload_n 3, 1) := by decide +kernel
theorem dX5_sheet_39 : decode cX5_sheet 39 = .ok (.ifCond .ge 6, 3) := by decide +kernel
theorem dX5_sheet_42 : decode cX5_sheet 42 = .ok (.bipush (-14), 2) := by decide +kernel
theorem dX5_sheet_44 : decode cX5_sheet 44 = .ok (.ireturn, 1) := by decide +kernel
theorem dX5_sheet_45 : decode cX5_sheet 45 = .ok (.aload_n 0, 1) := by decide +kernel
theorem dX5_sheet_46 : decode cX5_sheet 46 = .ok (.getfield 53, 3) := by decide +kernel
theorem dX5_sheet_49 : decode cX5_sheet 49 = .ok (.iload_n 1, 1) := by decide +kernel
theorem dX5_sheet_50 : decode cX5_sheet 50 = .ok (.iload_n 2, 1) := by decide +kernel
theorem dX5_sheet_51 : decode cX5_sheet 51 = .ok (.ifCond .lt 7, 3) := by decide +kernel
theorem dX5_sheet_54 : decode cX5_sheet 54 = .ok (.iconst 1, 1) := by decide +kernel
theorem dX5_sheet_55 : decode cX5_sheet 55 = .ok (.goto 4, 3) := by decide +kernel
theorem dX5_sheet_58 : decode cX5_sheet 58 = .ok (.iconst 0, 1) := by decide +kernel
theorem dX5_sheet_59 : decode cX5_sheet 59 = .ok (.bastore, 1) := by decide +kernel
theorem dX5_sheet_60 : decode cX5_sheet 60 = .ok (.aload_n 0, 1) := by decide +kernel
theorem dX5_sheet_61 : decode cX5_sheet 61 = .ok (.getfield 57, 3) := by decide +kernel
theorem dX5_sheet_64 : decode cX5_sheet 64 = .ok (.iload_n 1, 1) := by decide +kernel
theorem dX5_sheet_65 : decode cX5_sheet 65 = .ok (.iload_n 2, 1) := by decide +kernel
theorem dX5_sheet_66 : decode cX5_sheet 66 = .ok (.iastore, 1) := by decide +kernel
theorem dX5_sheet_67 : decode cX5_sheet 67 = .ok (.aload_n 0, 1) := by decide +kernel
theorem dX5_sheet_68 : decode cX5_sheet 68 = .ok (.getfield 60, 3) := by decide +kernel
theorem dX5_sheet_71 : decode cX5_sheet 71 = .ok (.iload_n 1, 1) := by decide +kernel
theorem dX5_sheet_72 : decode cX5_sheet 72 = .ok (.iload_n 3, 1) := by decide +kernel
theorem dX5_sheet_73 : decode cX5_sheet 73 = .ok (.iastore, 1) := by decide +kernel
theorem dX5_sheet_74 : decode cX5_sheet 74 = .ok (.iconst 0, 1) := by decide +kernel
theorem dX5_sheet_75 : decode cX5_sheet 75 = .ok (.istore 4, 2) := by decide +kernel
theorem dX5_sheet_77 : decode cX5_sheet 77 = .ok (.iload 4, 2) := by decide +kernel
theorem dX5_sheet_79 : decode cX5_sheet 79 = .ok (.iload_n 3, 1) := by decide +kernel
theorem dX5_sheet_80 : decode cX5_sheet 80 = .ok (.if_icmp .ge 26, 3) := by decide +kernel
theorem dX5_sheet_83 : decode cX5_sheet 83 = .ok (.iload_n 2, 1) := by decide +kernel
theorem dX5_sheet_84 : decode cX5_sheet 84 = .ok (.ifCond .lt 22, 3) := by decide +kernel
theorem dX5_sheet_87 : decode cX5_sheet 87 = .ok (.aload_n 0, 1) := by decide +kernel
theorem dX5_sheet_88 : decode cX5_sheet 88 = .ok (.getfield 63, 3) := by decide +kernel
theorem dX5_sheet_91 : decode cX5_sheet 91 = .ok (.bipush 40, 2) := by decide +kernel
theorem dX5_sheet_93 : decode cX5_sheet 93 = .ok (.iload_n 1, 1) := by decide +kernel
theorem dX5_sheet_94 : decode cX5_sheet 94 = .ok (.imul, 1) := by decide +kernel
theorem dX5_sheet_95 : decode cX5_sheet 95 = .ok (.iload 4, 2) := by decide +kernel
theorem dX5_sheet_97 : decode cX5_sheet 97 = .ok (.iadd, 1) := by decide +kernel
theorem dX5_sheet_98 : decode cX5_sheet 98 = .ok (.iconst 0, 1) := by decide +kernel
theorem dX5_sheet_99 : decode cX5_sheet 99 = .ok (.iastore, 1) := by decide +kernel
theorem dX5_sheet_100 : decode cX5_sheet 100 = .ok (.iinc 4 1, 3) := by decide +kernel
theorem dX5_sheet_103 : decode cX5_sheet 103 = .ok (.goto (-26), 3) := by decide +kernel
theorem dX5_sheet_106 : decode cX5_sheet 106 = .ok (.iconst 1, 1) := by decide +kernel
theorem dX5_sheet_107 : decode cX5_sheet 107 = .ok (.ireturn, 1) := by decide +kernel
theorem dX5_cell_0 : decode cX5_cell 0 = .ok (.iload_n 1, 1) := by decide +kernel
theorem dX5_cell_1 : decode cX5_cell 1 = .ok (.invokestatic 319, 3) := by decide +kernel
theorem dX5_cell_4 : decode cX5_cell 4 = .ok (.ifCond .ne 6, 3) := by decide +kernel
theorem dX5_cell_7 : decode cX5_cell 7 = .ok (.bipush (-2), 2) := by decide +kernel
theorem dX5_cell_9 : decode cX5_cell 9 = .ok (.ireturn, 1) := by decide +kernel
theorem dX5_cell_10 : decode cX5_cell 10 = .ok (.aload_n 0, 1) := by decide +kernel
theorem dX5_cell_11 : decode cX5_cell 11 = .ok (.getfield 53, 3) := by decide +kernel
theorem dX5_cell_14 : decode cX5_cell 14 = .ok (.iload_n 1, 1) := by decide +kernel
theorem dX5_cell_15 : decode cX5_cell 15 = .ok (.baload, 1) := by decide +kernel
theorem dX5_cell_16 : decode cX5_cell 16 = .ok (.ifCond .ne 6, 3) := by decide +kernel
theorem dX5_cell_19 : decode cX5_cell 19 = .ok (.bipush (-11), 2) := by decide +kernel
theorem dX5_cell_21 : decode cX5_cell 21 = .ok (.ireturn, 1) := by decide +kernel
theorem dX5_cell_22 : decode cX5_cell 22 = .ok (.iload_n 2, 1) := by decide +kernel
theorem dX5_cell_23 : decode cX5_cell 23 = .ok (.i2l, 1) := by decide +kernel
theorem dX5_cell_24 : decode cX5_cell 24 = .ok (.lconst 0, 1) := by decide +kernel
theorem dX5_cell_25 : decode cX5_cell 25 = .ok (.aload_n 0, 1) := by decide +kernel
theorem dX5_cell_26 : decode cX5_cell 26 = .ok (.getfield 60, 3) := by decide +kernel
theorem dX5_cell_29 : decode cX5_cell 29 = .ok (.iload_n 1, 1) := by decide +kernel
theorem dX5_cell_30 : decode cX5_cell 30 = .ok (.iaload, 1) := by decide +kernel
theorem dX5_cell_31 : decode cX5_cell 31 = .ok (.iconst 1, 1) := by decide +kernel
theorem dX5_cell_32 : decode cX5_cell 32 = .ok (.isub, 1) := by decide +kernel
theorem dX5_cell_33 : decode cX5_cell 33 = .ok (.i2l, 1) := by decide +kernel
theorem dX5_cell_34 : decode cX5_cell 34 = .ok (.invokestatic 76, 3) := by decide +kernel
theorem dX5_cell_37 : decode cX5_cell 37 = .ok (.ifCond .ne 6, 3) := by decide +kernel
theorem dX5_cell_40 : decode cX5_cell 40 = .ok (.bipush (-12), 2) := by decide +kernel
theorem dX5_cell_42 : decode cX5_cell 42 = .ok (.ireturn, 1) := by decide +kernel
theorem dX5_cell_43 : decode cX5_cell 43 = .ok (.aload_n 0, 1) := by decide +kernel
theorem dX5_cell_44 : decode cX5_cell 44 = .ok (.getfield 63, 3) := by decide +kernel
theorem dX5_cell_47 : decode cX5_cell 47 = .ok (.bipush 40, 2) := by decide +kernel
theorem dX5_cell_49 : decode cX5_cell 49 = .ok (.iload_n 1, 1) := by decide +kernel
theorem dX5_cell_50 : decode cX5_cell 50 = .ok (.imul, 1) := by decide +kernel
theorem dX5_cell_51 : decode cX5_cell 51 = .ok (.iload_n 2, 1) := by decide +kernel
theorem dX5_cell_52 : decode cX5_cell 52 = .ok (.iadd, 1) := by decide +kernel
theorem dX5_cell_53 : decode cX5_cell 53 = .ok (.aload_n 0, 1) := by decide +kernel
theorem dX5_cell_54 : decode cX5_cell 54 = .ok (.getfield 57, 3) := by decide +kernel
theorem dX5_cell_57 : decode cX5_cell 57 = .ok (.iload_n 1, 1) := by decide +kernel
theorem dX5_cell_58 : decode cX5_cell 58 = .ok (.iaload, 1) := by decide +kernel
theorem dX5_cell_59 : decode cX5_cell 59 = .ok (.ifCond .ne 8, 3) := by decide +kernel
theorem dX5_cell_62 : decode cX5_cell 62 = .ok (.iload_n 3, 1) := by decide +kernel
theorem dX5_cell_63 : decode cX5_cell 63 = .ok (.i2b, 1) := by decide +kernel
theorem dX5_cell_64 : decode cX5_cell 64 = .ok (.goto 19, 3) := by decide +kernel
theorem dX5_cell_67 : decode cX5_cell 67 = .ok (.aload_n 0, 1) := by decide +kernel
theorem dX5_cell_68 : decode cX5_cell 68 = .ok (.getfield 57, 3) := by decide +kernel
theorem dX5_cell_71 : decode cX5_cell 71 = .ok (.iload_n 1, 1) := by decide +kernel
theorem dX5_cell_72 : decode cX5_cell 72 = .ok (.iaload, 1) := by decide +kernel
theorem dX5_cell_73 : decode cX5_cell 73 = .ok (.iconst 1, 1) := by decide +kernel
theorem dX5_cell_74 : decode cX5_cell 74 = .ok (.if_icmp .ne 8, 3) := by decide +kernel
theorem dX5_cell_77 : decode cX5_cell 77 = .ok (.iload_n 3, 1) := by decide +kernel
theorem dX5_cell_78 : decode cX5_cell 78 = .ok (.i2s, 1) := by decide +kernel
theorem dX5_cell_79 : decode cX5_cell 79 = .ok (.goto 4, 3) := by decide +kernel
theorem dX5_cell_82 : decode cX5_cell 82 = .ok (.iload_n 3, 1) := by decide +kernel
theorem dX5_cell_83 : decode cX5_cell 83 = .ok (.iastore, 1) := by decide +kernel
theorem dX5_cell_84 : decode cX5_cell 84 = .ok (.iconst 1, 1) := by decide +kernel
theorem dX5_cell_85 : decode cX5_cell 85 = .ok (.ireturn, 1) := by decide +kernel
theorem dX5_copy_0 : decode cX5_copy 0 = .ok (.iload_n 1, 1) := by decide +kernel
theorem dX5_copy_1 : decode cX5_copy 1 = .ok (.invokestatic 319, 3) := by decide +kernel
theorem dX5_copy_4 : decode cX5_copy 4 = .ok (.ifCond .eq 10, 3) := by decide +kernel
theorem dX5_copy_7 : decode cX5_copy 7 = .ok (.iload_n 3, 1) := by decide +kernel
theorem dX5_copy_8 : decode cX5_copy 8 = .ok (.invokestatic 319, 3) := by decide +kernel
theorem dX5_copy_11 : decode cX5_copy 11 = .ok (.ifCond .ne 6, 3) := by decide +kernel
theorem dX5_copy_14 : decode cX5_copy 14 = .ok (.bipush (-2), 2) := by decide +kernel
theorem dX5_copy_16 : decode cX5_copy 16 = .ok (.ireturn, 1) := by decide +kernel
theorem dX5_copy_17 : decode cX5_copy 17 = .ok (.aload_n 0, 1) := by decide +kernel
theorem dX5_copy_18 : decode cX5_copy 18 = .ok (.getfield 53, 3) := by decide +kernel
theorem dX5_copy_21 : decode cX5_copy 21 = .ok (.iload_n 1, 1) := by decide +kernel
theorem dX5_copy_22 : decode cX5_copy 22 = .ok (.baload, 1) := by decide +kernel
theorem dX5_copy_23 : decode cX5_copy 23 = .ok (.ifCond .eq 12, 3) := by decide +kernel
theorem dX5_copy_26 : decode cX5_copy 26 = .ok (.aload_n 0, 1) := by decide +kernel
theorem dX5_copy_27 : decode cX5_copy 27 = .ok (.getfield 53, 3) := by decide +kernel
theorem dX5_copy_30 : decode cX5_copy 30 = .ok (.iload_n 3, 1) := by decide +kernel
theorem dX5_copy_31 : decode cX5_copy 31 = .ok (.baload, 1) := by decide +kernel
theorem dX5_copy_32 : decode cX5_copy 32 = .ok (.ifCond .ne 6, 3) := by decide +kernel
theorem dX5_copy_35 : decode cX5_copy 35 = .ok (.bipush (-11), 2) := by decide +kernel
theorem dX5_copy_37 : decode cX5_copy 37 = .ok (.ireturn, 1) := by decide +kernel
theorem dX5_copy_38 : decode cX5_copy 38 = .ok (.aload_n 0, 1) := by decide +kernel
theorem dX5_copy_39 : decode cX5_copy 39 = .ok (.getfield 57, 3) := by decide +kernel
theorem dX5_copy_42 : decode cX5_copy 42 = .ok (.iload_n 1, 1) := by decide +kernel
theorem dX5_copy_43 : decode cX5_copy 43 = .ok (.iaload, 1) := by decide +kernel
theorem dX5_copy_44 : decode cX5_copy 44 = .ok (.aload_n 0, 1) := by decide +kernel
theorem dX5_copy_45 : decode cX5_copy 45 = .ok (.getfield 57, 3) := by decide +kernel
theorem dX5_copy_48 : decode cX5_copy 48 = .ok (.iload_n 3, 1) := by decide +kernel
theorem dX5_copy_49 : decode cX5_copy 49 = .ok (.iaload, 1) := by decide +kernel
theorem dX5_copy_50 : decode cX5_copy 50 = .ok (.if_icmp .eq 6, 3) := by decide +kernel
theorem dX5_copy_53 : decode cX5_copy 53 = .ok (.bipush (-13), 2) := by decide +kernel
theorem dX5_copy_55 : decode cX5_copy 55 = .ok (.ireturn, 1) := by decide +kernel
theorem dX5_copy_56 : decode cX5_copy 56 = .ok (.iload 5, 2) := by decide +kernel
theorem dX5_copy_58 : decode cX5_copy 58 = .ok (.ifCond .lt 39, 3) := by decide +kernel
theorem dX5_copy_61 : decode cX5_copy 61 = .ok (.iload_n 2, 1) := by decide +kernel
theorem dX5_copy_62 : decode cX5_copy 62 = .ok (.ifCond .lt 35, 3) := by decide +kernel
theorem dX5_copy_65 : decode cX5_copy 65 = .ok (.iload 4, 2) := by decide +kernel
theorem dX5_copy_67 : decode cX5_copy 67 = .ok (.ifCond .lt 30, 3) := by decide +kernel
theorem dX5_copy_70 : decode cX5_copy 70 = .ok (.iload_n 2, 1) := by decide +kernel
theorem dX5_copy_71 : decode cX5_copy 71 = .ok (.aload_n 0, 1) := by decide +kernel
theorem dX5_copy_72 : decode cX5_copy 72 = .ok (.getfield 60, 3) := by decide +kernel
theorem dX5_copy_75 : decode cX5_copy 75 = .ok (.iload_n 1, 1) := by decide +kernel
theorem dX5_copy_76 : decode cX5_copy 76 = .ok (.iaload, 1) := by decide +kernel
theorem dX5_copy_77 : decode cX5_copy 77 = .ok (.iload 5, 2) := by decide +kernel
theorem dX5_copy_79 : decode cX5_copy 79 = .ok (.isub, 1) := by decide +kernel
theorem dX5_copy_80 : decode cX5_copy 80 = .ok (.if_icmp .gt 17, 3) := by decide +kernel
theorem dX5_copy_83 : decode cX5_copy 83 = .ok (.iload 4, 2) := by decide +kernel
theorem dX5_copy_85 : decode cX5_copy 85 = .ok (.aload_n 0, 1) := by decide +kernel
theorem dX5_copy_86 : decode cX5_copy 86 = .ok (.getfield 60, 3) := by decide +kernel
theorem dX5_copy_89 : decode cX5_copy 89 = .ok (.iload_n 3, 1) := by decide +kernel
theorem dX5_copy_90 : decode cX5_copy 90 = .ok (.iaload, 1) := by decide +kernel
theorem dX5_copy_91 : decode cX5_copy 91 = .ok (.iload 5, 2) := by decide +kernel
theorem dX5_copy_93 : decode cX5_copy 93 = .ok (.isub, 1) := by decide +kernel
theorem dX5_copy_94 : decode cX5_copy 94 = .ok (.if_icmp .le 6, 3) := by decide +kernel
theorem dX5_copy_97 : decode cX5_copy 97 = .ok (.bipush (-12), 2) := by decide +kernel
theorem dX5_copy_99 : decode cX5_copy 99 = .ok (.ireturn, 1) := by decide +kernel
theorem dX5_copy_100 : decode cX5_copy 100 = .ok (.iload_n 1, 1) := by decide +kernel
theorem dX5_copy_101 : decode cX5_copy 101 = .ok (.iload_n 3, 1) := by decide +kernel
theorem dX5_copy_102 : decode cX5_copy 102 = .ok (.if_icmp .ne 13, 3) := by decide +kernel
theorem dX5_copy_105 : decode cX5_copy 105 = .ok (.iload_n 2, 1) := by decide +kernel
theorem dX5_copy_106 : decode cX5_copy 106 = .ok (.iload 4, 2) := by decide +kernel
theorem dX5_copy_108 : decode cX5_copy 108 = .ok (.if_icmp .ge 7, 3) := by decide +kernel
theorem dX5_copy_111 : decode cX5_copy 111 = .ok (.iconst 1, 1) := by decide +kernel
theorem dX5_copy_112 : decode cX5_copy 112 = .ok (.goto 4, 3) := by decide +kernel
theorem dX5_copy_115 : decode cX5_copy 115 = .ok (.iconst 0, 1) := by decide +kernel
theorem dX5_copy_116 : decode cX5_copy 116 = .ok (.istore 6, 2) := by decide +kernel
theorem dX5_copy_118 : decode cX5_copy 118 = .ok (.iconst 0, 1) := by decide +kernel
theorem dX5_copy_119 : decode cX5_copy 119 = .ok (.istore 7, 2) := by decide +kernel
theorem dX5_copy_121 : decode cX5_copy 121 = .ok (.iload 7, 2) := by decide +kernel
theorem dX5_copy_123 : decode cX5_copy 123 = .ok (.iload 5, 2) := by decide +kernel
theorem dX5_copy_125 : decode cX5_copy 125 = .ok (.if_icmp .ge 57, 3) := by decide +kernel
theorem dX5_copy_128 : decode cX5_copy 128 = .ok (.iload 6, 2) := by decide +kernel
theorem dX5_copy_130 : decode cX5_copy 130 = .ok (.ifCond .eq 13, 3) := by decide +kernel
theorem dX5_copy_133 : decode cX5_copy 133 = .ok (.iload 5, 2) := by decide +kernel
theorem dX5_copy_135 : decode cX5_copy 135 = .ok (.iconst 1, 1) := by decide +kernel
theorem dX5_copy_136 : decode cX5_copy 136 = .ok (.isub, 1) := by decide +kernel
theorem dX5_copy_137 : decode cX5_copy 137 = .ok (.iload 7, 2) := by decide +kernel
theorem dX5_copy_139 : decode cX5_copy 139 = .ok (.isub, 1) := by decide +kernel
theorem dX5_copy_140 : decode cX5_copy 140 = .ok (.goto 5, 3) := by decide +kernel
theorem dX5_copy_143 : decode cX5_copy 143 = .ok (.iload 7, 2) := by decide +kernel
theorem dX5_copy_145 : decode cX5_copy 145 = .ok (.istore 8, 2) := by decide +kernel
theorem dX5_copy_147 : decode cX5_copy 147 = .ok (.aload_n 0, 1) := by decide +kernel
theorem dX5_copy_148 : decode cX5_copy 148 = .ok (.getfield 63, 3) := by decide +kernel
theorem dX5_copy_151 : decode cX5_copy 151 = .ok (.bipush 40, 2) := by decide +kernel
theorem dX5_copy_153 : decode cX5_copy 153 = .ok (.iload_n 3, 1) := by decide +kernel
theorem dX5_copy_154 : decode cX5_copy 154 = .ok (.imul, 1) := by decide +kernel
theorem dX5_copy_155 : decode cX5_copy 155 = .ok (.iload 4, 2) := by decide +kernel
theorem dX5_copy_157 : decode cX5_copy 157 = .ok (.iadd, 1) := by decide +kernel
theorem dX5_copy_158 : decode cX5_copy 158 = .ok (.iload 8, 2) := by decide +kernel
theorem dX5_copy_160 : decode cX5_copy 160 = .ok (.iadd, 1) := by decide +kernel
theorem dX5_copy_161 : decode cX5_copy 161 = .ok (.aload_n 0, 1) := by decide +kernel
theorem dX5_copy_162 : decode cX5_copy 162 = .ok (.getfield 63, 3) := by decide +kernel
theorem dX5_copy_165 : decode cX5_copy 165 = .ok (.bipush 40, 2) := by decide +kernel
theorem dX5_copy_167 : decode cX5_copy 167 = .ok (.iload_n 1, 1) := by decide +kernel
theorem dX5_copy_168 : decode cX5_copy 168 = .ok (.imul, 1) := by decide +kernel
theorem dX5_copy_169 : decode cX5_copy 169 = .ok (.iload_n 2, 1) := by decide +kernel
theorem dX5_copy_170 : decode cX5_copy 170 = .ok (.iadd, 1) := by decide +kernel
theorem dX5_copy_171 : decode cX5_copy 171 = .ok (.iload 8, 2) := by decide +kernel
theorem dX5_copy_173 : decode cX5_copy 173 = .ok (.iadd, 1) := by decide +kernel
theorem dX5_copy_174 : decode cX5_copy 174 = .ok (.iaload, 1) := by decide +kernel
theorem dX5_copy_175 : decode cX5_copy 175 = .ok (.iastore, 1) := by decide +kernel
theorem dX5_copy_176 : decode cX5_copy 176 = .ok (.iinc 7 1, 3) := by decide +kernel
theorem dX5_copy_179 : decode cX5_copy 179 = .ok (.goto (-58), 3) := by decide +kernel
theorem dX5_copy_182 : decode cX5_copy 182 = .ok (.iload 5, 2) := by decide +kernel
theorem dX5_copy_184 : decode cX5_copy 184 = .ok (.ireturn, 1) := by decide +kernel
theorem dX5_hill_0 : decode cX5_hill 0 = .ok (.iload_n 1, 1) := by decide +kernel
theorem dX5_hill_1 : decode cX5_hill 1 = .ok (.invokestatic 319, 3) := by decide +kernel
theorem dX5_hill_4 : decode cX5_hill 4 = .ok (.ifCond .eq 28, 3) := by decide +kernel
theorem dX5_hill_7 : decode cX5_hill 7 = .ok (.iload_n 2, 1) := by decide +kernel
theorem dX5_hill_8 : decode cX5_hill 8 = .ok (.i2l, 1) := by decide +kernel
theorem dX5_hill_9 : decode cX5_hill 9 = .ok (.lconst 0, 1) := by decide +kernel
theorem dX5_hill_10 : decode cX5_hill 10 = .ok (.ldc2_w 350, 3) := by decide +kernel
theorem dX5_hill_13 : decode cX5_hill 13 = .ok (.invokestatic 76, 3) := by decide +kernel
theorem dX5_hill_16 : decode cX5_hill 16 = .ok (.ifCond .eq 16, 3) := by decide +kernel
theorem dX5_hill_19 : decode cX5_hill 19 = .ok (.iload 4, 2) := by decide +kernel
theorem dX5_hill_21 : decode cX5_hill 21 = .ok (.i2l, 1) := by decide +kernel
theorem dX5_hill_22 : decode cX5_hill 22 = .ok (.lconst 0, 1) := by decide +kernel
theorem dX5_hill_23 : decode cX5_hill 23 = .ok (.ldc2_w 114, 3) := by decide +kernel
theorem dX5_hill_26 : decode cX5_hill 26 = .ok (.invokestatic 76, 3) := by decide +kernel
theorem dX5_hill_29 : decode cX5_hill 29 = .ok (.ifCond .ne 6, 3) := by decide +kernel
theorem dX5_hill_32 : decode cX5_hill 32 = .ok (.bipush (-2), 2) := by decide +kernel
theorem dX5_hill_34 : decode cX5_hill 34 = .ok (.ireturn, 1) := by decide +kernel
theorem dX5_hill_35 : decode cX5_hill 35 = .ok (.aload_n 0, 1) := by decide +kernel
theorem dX5_hill_36 : decode cX5_hill 36 = .ok (.getfield 53, 3) := by decide +kernel
theorem dX5_hill_39 : decode cX5_hill 39 = .ok (.iload_n 1, 1) := by decide +kernel
theorem dX5_hill_40 : decode cX5_hill 40 = .ok (.baload, 1) := by decide +kernel
theorem dX5_hill_41 : decode cX5_hill 41 = .ok (.ifCond .eq 16, 3) := by decide +kernel
theorem dX5_hill_44 : decode cX5_hill 44 = .ok (.aload_n 0, 1) := by decide +kernel
theorem dX5_hill_45 : decode cX5_hill 45 = .ok (.getfield 57, 3) := by decide +kernel
theorem dX5_hill_48 : decode cX5_hill 48 = .ok (.iload_n 1, 1) := by decide +kernel
theorem dX5_hill_49 : decode cX5_hill 49 = .ok (.iaload, 1) := by decide +kernel
theorem dX5_hill_50 : decode cX5_hill 50 = .ok (.iload_n 2, 1) := by decide +kernel
theorem dX5_hill_51 : decode cX5_hill 51 = .ok (.if_icmp .eq 6, 3) := by decide +kernel
theorem dX5_hill_54 : decode cX5_hill 54 = .ok (.bipush (-13), 2) := by decide +kernel
theorem dX5_hill_56 : decode cX5_hill 56 = .ok (.ireturn, 1) := by decide +kernel
theorem dX5_hill_57 : decode cX5_hill 57 = .ok (.aload_n 0, 1) := by decide +kernel
theorem dX5_hill_58 : decode cX5_hill 58 = .ok (.getfield 53, 3) := by decide +kernel
theorem dX5_hill_61 : decode cX5_hill 61 = .ok (.iload_n 1, 1) := by decide +kernel
theorem dX5_hill_62 : decode cX5_hill 62 = .ok (.baload, 1) := by decide +kernel
theorem dX5_hill_63 : decode cX5_hill 63 = .ok (.ifCond .ne 6, 3) := by decide +kernel
theorem dX5_hill_66 : decode cX5_hill 66 = .ok (.bipush (-11), 2) := by decide +kernel
theorem dX5_hill_68 : decode cX5_hill 68 = .ok (.ireturn, 1) := by decide +kernel
theorem dX5_hill_69 : decode cX5_hill 69 = .ok (.iconst 0, 1) := by decide +kernel
theorem dX5_hill_70 : decode cX5_hill 70 = .ok (.istore 5, 2) := by decide +kernel
theorem dX5_hill_72 : decode cX5_hill 72 = .ok (.iconst 0, 1) := by decide +kernel
theorem dX5_hill_73 : decode cX5_hill 73 = .ok (.istore 6, 2) := by decide +kernel
theorem dX5_hill_75 : decode cX5_hill 75 = .ok (.iload 6, 2) := by decide +kernel
theorem dX5_hill_77 : decode cX5_hill 77 = .ok (.iload 4, 2) := by decide +kernel
theorem dX5_hill_79 : decode cX5_hill 79 = .ok (.if_icmp .ge 88, 3) := by decide +kernel
theorem dX5_hill_82 : decode cX5_hill 82 = .ok (.iload_n 3, 1) := by decide +kernel
theorem dX5_hill_83 : decode cX5_hill 83 = .ok (.ifCond .lt 20, 3) := by decide +kernel
theorem dX5_hill_86 : decode cX5_hill 86 = .ok (.iload_n 3, 1) := by decide +kernel
theorem dX5_hill_87 : decode cX5_hill 87 = .ok (.aload_n 0, 1) := by decide +kernel
theorem dX5_hill_88 : decode cX5_hill 88 = .ok (.getfield 60, 3) := by decide +kernel
theorem dX5_hill_91 : decode cX5_hill 91 = .ok (.iload_n 1, 1) := by decide +kernel
theorem dX5_hill_92 : decode cX5_hill 92 = .ok (.iaload, 1) := by decide +kernel
theorem dX5_hill_93 : decode cX5_hill 93 = .ok (.iconst 3, 1) := by decide +kernel
theorem dX5_hill_94 : decode cX5_hill 94 = .ok (.iload 6, 2) := by decide +kernel
theorem dX5_hill_96 : decode cX5_hill 96 = .ok (.imul, 1) := by decide +kernel
theorem dX5_hill_97 : decode cX5_hill 97 = .ok (.isub, 1) := by decide +kernel
theorem dX5_hill_98 : decode cX5_hill 98 = .ok (.iconst 3, 1) := by decide +kernel
theorem dX5_hill_99 : decode cX5_hill 99 = .ok (.isub, 1) := by decide +kernel
theorem dX5_hill_100 : decode cX5_hill 100 = .ok (.if_icmp .le 6, 3) := by decide +kernel
theorem dX5_hill_103 : decode cX5_hill 103 = .ok (.bipush (-12), 2) := by decide +kernel
theorem dX5_hill_105 : decode cX5_hill 105 = .ok (.ireturn, 1) := by decide +kernel
theorem dX5_hill_106 : decode cX5_hill 106 = .ok (.bipush 40, 2) := by decide +kernel
theorem dX5_hill_108 : decode cX5_hill 108 = .ok (.iload_n 1, 1) := by decide +kernel
theorem dX5_hill_109 : decode cX5_hill 109 = .ok (.imul, 1) := by decide +kernel
theorem dX5_hill_110 : decode cX5_hill 110 = .ok (.iload_n 3, 1) := by decide +kernel
theorem dX5_hill_111 : decode cX5_hill 111 = .ok (.iadd, 1) := by decide +kernel
theorem dX5_hill_112 : decode cX5_hill 112 = .ok (.iconst 3, 1) := by decide +kernel
theorem dX5_hill_113 : decode cX5_hill 113 = .ok (.iload 6, 2) := by decide +kernel
theorem dX5_hill_115 : decode cX5_hill 115 = .ok (.imul, 1) := by decide +kernel
theorem dX5_hill_116 : decode cX5_hill 116 = .ok (.iadd, 1) := by decide +kernel
theorem dX5_hill_117 : decode cX5_hill 117 = .ok (.istore 7, 2) := by decide +kernel
theorem dX5_hill_119 : decode cX5_hill 119 = .ok (.iload 5, 2) := by decide +kernel
theorem dX5_hill_121 : decode cX5_hill 121 = .ok (.aload_n 0, 1) := by decide +kernel
theorem dX5_hill_122 : decode cX5_hill 122 = .ok (.aload_n 0, 1) := by decide +kernel
theorem dX5_hill_123 : decode cX5_hill 123 = .ok (.getfield 63, 3) := by decide +kernel
theorem dX5_hill_126 : decode cX5_hill 126 = .ok (.iload 7, 2) := by decide +kernel
theorem dX5_hill_128 : decode cX5_hill 128 = .ok (.iaload, 1) := by decide +kernel
theorem dX5_hill_129 : decode cX5_hill 129 = .ok (.aload_n 0, 1) := by decide +kernel
theorem dX5_hill_130 : decode cX5_hill 130 = .ok (.getfield 63, 3) := by decide +kernel
theorem dX5_hill_133 : decode cX5_hill 133 = .ok (.iload 7, 2) := by decide +kernel
theorem dX5_hill_135 : decode cX5_hill 135 = .ok (.iconst 1, 1) := by decide +kernel
theorem dX5_hill_136 : decode cX5_hill 136 = .ok (.iadd, 1) := by decide +kernel
theorem dX5_hill_137 : decode cX5_hill 137 = .ok (.iaload, 1) := by decide +kernel
theorem dX5_hill_138 : decode cX5_hill 138 = .ok (.aload_n 0, 1) := by decide +kernel
theorem dX5_hill_139 : decode cX5_hill 139 = .ok (.getfield 63, 3) := by decide +kernel
theorem dX5_hill_142 : decode cX5_hill 142 = .ok (.iload 7, 2) := by decide +kernel
theorem dX5_hill_144 : decode cX5_hill 144 = .ok (.iconst 2, 1) := by decide +kernel
theorem dX5_hill_145 : decode cX5_hill 145 = .ok (.iadd, 1) := by decide +kernel
theorem dX5_hill_146 : decode cX5_hill 146 = .ok (.iaload, 1) := by decide +kernel
theorem dX5_hill_147 : decode cX5_hill 147 = .ok (.invokevirtual 352, 3) := by decide +kernel
theorem dX5_hill_150 : decode cX5_hill 150 = .ok (.ifCond .lt 7, 3) := by decide +kernel
theorem dX5_hill_153 : decode cX5_hill 153 = .ok (.iconst 1, 1) := by decide +kernel
theorem dX5_hill_154 : decode cX5_hill 154 = .ok (.goto 4, 3) := by decide +kernel
theorem dX5_hill_157 : decode cX5_hill 157 = .ok (.iconst 0, 1) := by decide +kernel
theorem dX5_hill_158 : decode cX5_hill 158 = .ok (.iadd, 1) := by decide +kernel
theorem dX5_hill_159 : decode cX5_hill 159 = .ok (.istore 5, 2) := by decide +kernel
theorem dX5_hill_161 : decode cX5_hill 161 = .ok (.iinc 6 1, 3) := by decide +kernel
theorem dX5_hill_164 : decode cX5_hill 164 = .ok (.goto (-89), 3) := by decide +kernel
theorem dX5_hill_167 : decode cX5_hill 167 = .ok (.iload 5, 2) := by decide +kernel
theorem dX5_hill_169 : decode cX5_hill 169 = .ok (.ireturn, 1) := by decide +kernel
theorem dX5_over_0 : decode cX5_over 0 = .ok (.iload_n 0, 1) := by decide +kernel
theorem dX5_over_1 : decode cX5_over 1 = .ok (.ifCond .ne 7, 3) := by decide +kernel
theorem dX5_over_4 : decode cX5_over 4 = .ok (.iconst (-1), 1) := by decide +kernel
theorem dX5_over_5 : decode cX5_over 5 = .ok (.goto 22, 3) := by decide +kernel
theorem dX5_over_8 : decode cX5_over 8 = .ok (.iload_n 0, 1) := by decide +kernel
theorem dX5_over_9 : decode cX5_over 9 = .ok (.iconst 3, 1) := by decide +kernel
theorem dX5_over_10 : decode cX5_over 10 = .ok (.if_icmp .ne 7, 3) := by decide +kernel
theorem dX5_over_13 : decode cX5_over 13 = .ok (.iconst 1, 1) := by decide +kernel
theorem dX5_over_14 : decode cX5_over 14 = .ok (.goto 13, 3) := by decide +kernel
theorem dX5_over_17 : decode cX5_over 17 = .ok (.iload_n 0, 1) := by decide +kernel
theorem dX5_over_18 : decode cX5_over 18 = .ok (.iconst 4, 1) := by decide +kernel
theorem dX5_over_19 : decode cX5_over 19 = .ok (.if_icmp .ne 7, 3) := by decide +kernel
theorem dX5_over_22 : decode cX5_over 22 = .ok (.iconst 2, 1) := by decide +kernel
theorem dX5_over_23 : decode cX5_over 23 = .ok (.goto 4, 3) := by decide +kernel
theorem dX5_over_26 : decode cX5_over 26 = .ok (.iconst 0, 1) := by decide +kernel
theorem dX5_over_27 : decode cX5_over 27 = .ok (.ireturn, 1) := by decide +kernel
theorem dX5_taken_0 : decode cX5_taken 0 = .ok (.iload_n 2, 1) := by decide +kernel
theorem dX5_taken_1 : decode cX5_taken 1 = .ok (.i2l, 1) := by decide +kernel
theorem dX5_taken_2 : decode cX5_taken 2 = .ok (.lconst 0, 1) := by decide +kernel
theorem dX5_taken_3 : decode cX5_taken 3 = .ok (.ldc2_w 114, 3) := by decide +kernel
theorem dX5_taken_6 : decode cX5_taken 6 = .ok (.invokestatic 76, 3) := by decide +kernel
theorem dX5_taken_9 : decode cX5_taken 9 = .ok (.ifCond .ne 6, 3) := by decide +kernel
theorem dX5_taken_12 : decode cX5_taken 12 = .ok (.bipush (-2), 2) := by decide +kernel
theorem dX5_taken_14 : decode cX5_taken 14 = .ok (.ireturn, 1) := by decide +kernel
theorem dX5_taken_15 : decode cX5_taken 15 = .ok (.aload_n 0, 1) := by decide +kernel
theorem dX5_taken_16 : decode cX5_taken 16 = .ok (.iload_n 1, 1) := by decide +kernel
theorem dX5_taken_17 : decode cX5_taken 17 = .ok (.invokevirtual 83, 3) := by decide +kernel
theorem dX5_taken_20 : decode cX5_taken 20 = .ok (.ifCond .ne 6, 3) := by decide +kernel
theorem dX5_taken_23 : decode cX5_taken 23 = .ok (.bipush (-11), 2) := by decide +kernel
theorem dX5_taken_25 : decode cX5_taken 25 = .ok (.ireturn, 1) := by decide +kernel
theorem dX5_taken_26 : decode cX5_taken 26 = .ok (.aload_n 0, 1) := by decide +kernel
theorem dX5_taken_27 : decode cX5_taken 27 = .ok (.getfield 26, 3) := by decide +kernel
theorem dX5_taken_30 : decode cX5_taken 30 = .ok (.iconst 3, 1) := by decide +kernel
theorem dX5_taken_31 : decode cX5_taken 31 = .ok (.iload_n 1, 1) := by decide +kernel
theorem dX5_taken_32 : decode cX5_taken 32 = .ok (.imul, 1) := by decide +kernel
theorem dX5_taken_33 : decode cX5_taken 33 = .ok (.iconst 1, 1) := by decide +kernel
theorem dX5_taken_34 : decode cX5_taken 34 = .ok (.iadd, 1) := by decide +kernel
theorem dX5_taken_35 : decode cX5_taken 35 = .ok (.iaload, 1) := by decide +kernel
theorem dX5_taken_36 : decode cX5_taken 36 = .ok (.istore_n 3, 1) := by decide +kernel
theorem dX5_taken_37 : decode cX5_taken 37 = .ok (.iload_n 3, 1) := by decide +kernel
theorem dX5_taken_38 : decode cX5_taken 38 = .ok (.iconst (-1), 1) := by decide +kernel
theorem dX5_taken_39 : decode cX5_taken 39 = .ok (.if_icmp .eq 16, 3) := by decide +kernel
theorem dX5_taken_42 : decode cX5_taken 42 = .ok (.iload_n 3, 1) := by decide +kernel
theorem dX5_taken_43 : decode cX5_taken 43 = .ok (.iload_n 2, 1) := by decide +kernel
theorem dX5_taken_44 : decode cX5_taken 44 = .ok (.if_icmp .eq 11, 3) := by decide +kernel
theorem dX5_taken_47 : decode cX5_taken 47 = .ok (.iload_n 3, 1) := by decide +kernel
theorem dX5_taken_48 : decode cX5_taken 48 = .ok (.invokestatic 355, 3) := by decide +kernel
theorem dX5_taken_51 : decode cX5_taken 51 = .ok (.istore_n 3, 1) := by decide +kernel
theorem dX5_taken_52 : decode cX5_taken 52 = .ok (.goto (-15), 3) := by decide +kernel
theorem dX5_taken_55 : decode cX5_taken 55 = .ok (.iload_n 3, 1) := by decide +kernel
theorem dX5_taken_56 : decode cX5_taken 56 = .ok (.iload_n 2, 1) := by decide +kernel
theorem dX5_taken_57 : decode cX5_taken 57 = .ok (.if_icmp .ne 14, 3) := by decide +kernel
theorem dX5_taken_60 : decode cX5_taken 60 = .ok (.aload_n 0, 1) := by decide +kernel
theorem dX5_taken_61 : decode cX5_taken 61 = .ok (.getfield 26, 3) := by decide +kernel
theorem dX5_taken_64 : decode cX5_taken 64 = .ok (.iconst 3, 1) := by decide +kernel
theorem dX5_taken_65 : decode cX5_taken 65 = .ok (.iload_n 1, 1) := by decide +kernel
theorem dX5_taken_66 : decode cX5_taken 66 = .ok (.imul, 1) := by decide +kernel
theorem dX5_taken_67 : decode cX5_taken 67 = .ok (.iaload, 1) := by decide +kernel
theorem dX5_taken_68 : decode cX5_taken 68 = .ok (.goto 5, 3) := by decide +kernel
theorem dX5_taken_71 : decode cX5_taken 71 = .ok (.bipush (-13), 2) := by decide +kernel
theorem dX5_taken_73 : decode cX5_taken 73 = .ok (.ireturn, 1) := by decide +kernel
theorem dJ6_bitCount_0f7a4_0 : decode cJ6_bitCount_0f7a4 0 = .ok (.iload_n 0, 1) := by decide +kernel
theorem dJ6_bitCount_0f7a4_1 : decode cJ6_bitCount_0f7a4 1 = .ok (.iload_n 0, 1) := by decide +kernel
theorem dJ6_bitCount_0f7a4_2 : decode cJ6_bitCount_0f7a4 2 = .ok (.iconst 1, 1) := by decide +kernel
theorem dJ6_bitCount_0f7a4_3 : decode cJ6_bitCount_0f7a4 3 = .ok (.iushr, 1) := by decide +kernel
theorem dJ6_bitCount_0f7a4_4 : decode cJ6_bitCount_0f7a4 4 = .ok (.ldc_w 265, 3) := by decide +kernel
theorem dJ6_bitCount_0f7a4_7 : decode cJ6_bitCount_0f7a4 7 = .ok (.iand, 1) := by decide +kernel
theorem dJ6_bitCount_0f7a4_8 : decode cJ6_bitCount_0f7a4 8 = .ok (.isub, 1) := by decide +kernel
theorem dJ6_bitCount_0f7a4_9 : decode cJ6_bitCount_0f7a4 9 = .ok (.istore_n 0, 1) := by decide +kernel
theorem dJ6_bitCount_0f7a4_10 : decode cJ6_bitCount_0f7a4 10 = .ok (.iload_n 0, 1) := by decide +kernel
theorem dJ6_bitCount_0f7a4_11 : decode cJ6_bitCount_0f7a4 11 = .ok (.ldc_w 266, 3) := by decide +kernel
theorem dJ6_bitCount_0f7a4_14 : decode cJ6_bitCount_0f7a4 14 = .ok (.iand, 1) := by decide +kernel
theorem dJ6_bitCount_0f7a4_15 : decode cJ6_bitCount_0f7a4 15 = .ok (.iload_n 0, 1) := by decide +kernel
theorem dJ6_bitCount_0f7a4_16 : decode cJ6_bitCount_0f7a4 16 = .ok (.iconst 2, 1) := by decide +kernel
theorem dJ6_bitCount_0f7a4_17 : decode cJ6_bitCount_0f7a4 17 = .ok (.iushr, 1) := by decide +kernel
theorem dJ6_bitCount_0f7a4_18 : decode cJ6_bitCount_0f7a4 18 = .ok (.ldc_w 266, 3) := by decide +kernel
theorem dJ6_bitCount_0f7a4_21 : decode cJ6_bitCount_0f7a4 21 = .ok (.iand, 1) := by decide +kernel
theorem dJ6_bitCount_0f7a4_22 : decode cJ6_bitCount_0f7a4 22 = .ok (.iadd, 1) := by decide +kernel
theorem dJ6_bitCount_0f7a4_23 : decode cJ6_bitCount_0f7a4 23 = .ok (.istore_n 0, 1) := by decide +kernel
theorem dJ6_bitCount_0f7a4_24 : decode cJ6_bitCount_0f7a4 24 = .ok (.iload_n 0, 1) := by decide +kernel
theorem dJ6_bitCount_0f7a4_25 : decode cJ6_bitCount_0f7a4 25 = .ok (.iload_n 0, 1) := by decide +kernel
theorem dJ6_bitCount_0f7a4_26 : decode cJ6_bitCount_0f7a4 26 = .ok (.iconst 4, 1) := by decide +kernel
theorem dJ6_bitCount_0f7a4_27 : decode cJ6_bitCount_0f7a4 27 = .ok (.iushr, 1) := by decide +kernel
theorem dJ6_bitCount_0f7a4_28 : decode cJ6_bitCount_0f7a4 28 = .ok (.iadd, 1) := by decide +kernel
theorem dJ6_bitCount_0f7a4_29 : decode cJ6_bitCount_0f7a4 29 = .ok (.ldc_w 267, 3) := by decide +kernel
theorem dJ6_bitCount_0f7a4_32 : decode cJ6_bitCount_0f7a4 32 = .ok (.iand, 1) := by decide +kernel
theorem dJ6_bitCount_0f7a4_33 : decode cJ6_bitCount_0f7a4 33 = .ok (.istore_n 0, 1) := by decide +kernel
theorem dJ6_bitCount_0f7a4_34 : decode cJ6_bitCount_0f7a4 34 = .ok (.iload_n 0, 1) := by decide +kernel
theorem dJ6_bitCount_0f7a4_35 : decode cJ6_bitCount_0f7a4 35 = .ok (.iload_n 0, 1) := by decide +kernel
theorem dJ6_bitCount_0f7a4_36 : decode cJ6_bitCount_0f7a4 36 = .ok (.bipush 8, 2) := by decide +kernel
theorem dJ6_bitCount_0f7a4_38 : decode cJ6_bitCount_0f7a4 38 = .ok (.iushr, 1) := by decide +kernel
theorem dJ6_bitCount_0f7a4_39 : decode cJ6_bitCount_0f7a4 39 = .ok (.iadd, 1) := by decide +kernel
theorem dJ6_bitCount_0f7a4_40 : decode cJ6_bitCount_0f7a4 40 = .ok (.istore_n 0, 1) := by decide +kernel
theorem dJ6_bitCount_0f7a4_41 : decode cJ6_bitCount_0f7a4 41 = .ok (.iload_n 0, 1) := by decide +kernel
theorem dJ6_bitCount_0f7a4_42 : decode cJ6_bitCount_0f7a4 42 = .ok (.iload_n 0, 1) := by decide +kernel
theorem dJ6_bitCount_0f7a4_43 : decode cJ6_bitCount_0f7a4 43 = .ok (.bipush 16, 2) := by decide +kernel
theorem dJ6_bitCount_0f7a4_45 : decode cJ6_bitCount_0f7a4 45 = .ok (.iushr, 1) := by decide +kernel
theorem dJ6_bitCount_0f7a4_46 : decode cJ6_bitCount_0f7a4 46 = .ok (.iadd, 1) := by decide +kernel
theorem dJ6_bitCount_0f7a4_47 : decode cJ6_bitCount_0f7a4 47 = .ok (.istore_n 0, 1) := by decide +kernel
theorem dJ6_bitCount_0f7a4_48 : decode cJ6_bitCount_0f7a4 48 = .ok (.iload_n 0, 1) := by decide +kernel
theorem dJ6_bitCount_0f7a4_49 : decode cJ6_bitCount_0f7a4 49 = .ok (.bipush 63, 2) := by decide +kernel
theorem dJ6_bitCount_0f7a4_51 : decode cJ6_bitCount_0f7a4 51 = .ok (.iand, 1) := by decide +kernel
theorem dJ6_bitCount_0f7a4_52 : decode cJ6_bitCount_0f7a4 52 = .ok (.ireturn, 1) := by decide +kernel
theorem dJ9_max_7cf53_0 : decode cJ9_max_7cf53 0 = .ok (.iload_n 0, 1) := by decide +kernel
theorem dJ9_max_7cf53_1 : decode cJ9_max_7cf53 1 = .ok (.iload_n 1, 1) := by decide +kernel
theorem dJ9_max_7cf53_2 : decode cJ9_max_7cf53 2 = .ok (.if_icmp .lt 7, 3) := by decide +kernel
theorem dJ9_max_7cf53_5 : decode cJ9_max_7cf53 5 = .ok (.iload_n 0, 1) := by decide +kernel
theorem dJ9_max_7cf53_6 : decode cJ9_max_7cf53 6 = .ok (.goto 4, 3) := by decide +kernel
theorem dJ9_max_7cf53_9 : decode cJ9_max_7cf53 9 = .ok (.iload_n 1, 1) := by decide +kernel
theorem dJ9_max_7cf53_10 : decode cJ9_max_7cf53 10 = .ok (.ireturn, 1) := by decide +kernel
theorem dJ9_min_7cf53_0 : decode cJ9_min_7cf53 0 = .ok (.iload_n 0, 1) := by decide +kernel
theorem dJ9_min_7cf53_1 : decode cJ9_min_7cf53 1 = .ok (.iload_n 1, 1) := by decide +kernel
theorem dJ9_min_7cf53_2 : decode cJ9_min_7cf53 2 = .ok (.if_icmp .gt 7, 3) := by decide +kernel
theorem dJ9_min_7cf53_5 : decode cJ9_min_7cf53 5 = .ok (.iload_n 0, 1) := by decide +kernel
theorem dJ9_min_7cf53_6 : decode cJ9_min_7cf53 6 = .ok (.goto 4, 3) := by decide +kernel
theorem dJ9_min_7cf53_9 : decode cJ9_min_7cf53 9 = .ok (.iload_n 1, 1) := by decide +kernel
theorem dJ9_min_7cf53_10 : decode cJ9_min_7cf53 10 = .ok (.ireturn, 1) := by decide +kernel
theorem dJ0_length_8abf5_0 : decode cJ0_length_8abf5 0 = .ok (.aload_n 0, 1) := by decide +kernel
theorem dJ0_length_8abf5_1 : decode cJ0_length_8abf5 1 = .ok (.getfield 9, 3) := by decide +kernel
theorem dJ0_length_8abf5_4 : decode cJ0_length_8abf5 4 = .ok (.arraylength, 1) := by decide +kernel
theorem dJ0_length_8abf5_5 : decode cJ0_length_8abf5 5 = .ok (.aload_n 0, 1) := by decide +kernel
theorem dJ0_length_8abf5_6 : decode cJ0_length_8abf5 6 = .ok (.invokevirtual 335, 3) := by decide +kernel
theorem dJ0_length_8abf5_9 : decode cJ0_length_8abf5 9 = .ok (.ishr, 1) := by decide +kernel
theorem dJ0_length_8abf5_10 : decode cJ0_length_8abf5 10 = .ok (.ireturn, 1) := by decide +kernel
theorem dJ0_charAt_5068e_0 : decode cJ0_charAt_5068e 0 = .ok (.aload_n 0, 1) := by decide +kernel
theorem dJ0_charAt_5068e_1 : decode cJ0_charAt_5068e 1 = .ok (.invokevirtual 492, 3) := by decide +kernel
theorem dJ0_charAt_5068e_4 : decode cJ0_charAt_5068e 4 = .ok (.ifCond .eq 12, 3) := by decide +kernel
theorem dJ0_charAt_5068e_7 : decode cJ0_charAt_5068e 7 = .ok (.aload_n 0, 1) := by decide +kernel
theorem dJ0_charAt_5068e_8 : decode cJ0_charAt_5068e 8 = .ok (.getfield 9, 3) := by decide +kernel
theorem dJ0_charAt_5068e_11 : decode cJ0_charAt_5068e 11 = .ok (.iload_n 1, 1) := by decide +kernel
theorem dJ0_charAt_5068e_12 : decode cJ0_charAt_5068e 12 = .ok (.invokestatic 495, 3) := by decide +kernel
theorem dJ0_charAt_5068e_15 : decode cJ0_charAt_5068e 15 = .ok (.ireturn, 1) := by decide +kernel
theorem dJ0_charAt_5068e_16 : decode cJ0_charAt_5068e 16 = .ok (.aload_n 0, 1) := by decide +kernel
theorem dJ0_charAt_5068e_17 : decode cJ0_charAt_5068e 17 = .ok (.getfield 9, 3) := by decide +kernel
theorem dJ0_charAt_5068e_20 : decode cJ0_charAt_5068e 20 = .ok (.iload_n 1, 1) := by decide +kernel
theorem dJ0_charAt_5068e_21 : decode cJ0_charAt_5068e 21 = .ok (.invokestatic 498, 3) := by decide +kernel
theorem dJ0_charAt_5068e_24 : decode cJ0_charAt_5068e 24 = .ok (.ireturn, 1) := by decide +kernel
theorem dJ0_coder_7d493_0 : decode cJ0_coder_7d493 0 = .ok (.getstatic 38, 3) := by decide +kernel
theorem dJ0_coder_7d493_3 : decode cJ0_coder_7d493 3 = .ok (.ifCond .eq 10, 3) := by decide +kernel
theorem dJ0_coder_7d493_6 : decode cJ0_coder_7d493 6 = .ok (.aload_n 0, 1) := by decide +kernel
theorem dJ0_coder_7d493_7 : decode cJ0_coder_7d493 7 = .ok (.getfield 15, 3) := by decide +kernel
theorem dJ0_coder_7d493_10 : decode cJ0_coder_7d493 10 = .ok (.goto 4, 3) := by decide +kernel
theorem dJ0_coder_7d493_13 : decode cJ0_coder_7d493 13 = .ok (.iconst 1, 1) := by decide +kernel
theorem dJ0_coder_7d493_14 : decode cJ0_coder_7d493 14 = .ok (.ireturn, 1) := by decide +kernel
theorem dJ0_isLatin1_aae02_0 : decode cJ0_isLatin1_aae02 0 = .ok (.getstatic 38, 3) := by decide +kernel
theorem dJ0_isLatin1_aae02_3 : decode cJ0_isLatin1_aae02 3 = .ok (.ifCond .eq 14, 3) := by decide +kernel
theorem dJ0_isLatin1_aae02_6 : decode cJ0_isLatin1_aae02 6 = .ok (.aload_n 0, 1) := by decide +kernel
theorem dJ0_isLatin1_aae02_7 : decode cJ0_isLatin1_aae02 7 = .ok (.getfield 15, 3) := by decide +kernel
theorem dJ0_isLatin1_aae02_10 : decode cJ0_isLatin1_aae02 10 = .ok (.ifCond .ne 7, 3) := by decide +kernel
theorem dJ0_isLatin1_aae02_13 : decode cJ0_isLatin1_aae02 13 = .ok (.iconst 1, 1) := by decide +kernel
theorem dJ0_isLatin1_aae02_14 : decode cJ0_isLatin1_aae02 14 = .ok (.goto 4, 3) := by decide +kernel
theorem dJ0_isLatin1_aae02_17 : decode cJ0_isLatin1_aae02 17 = .ok (.iconst 0, 1) := by decide +kernel
theorem dJ0_isLatin1_aae02_18 : decode cJ0_isLatin1_aae02 18 = .ok (.ireturn, 1) := by decide +kernel
theorem dJ0_checkIndex_df160_0 : decode cJ0_checkIndex_df160 0 = .ok (.iload_n 0, 1) := by decide +kernel
theorem dJ0_checkIndex_df160_1 : decode cJ0_checkIndex_df160 1 = .ok (.iload_n 1, 1) := by decide +kernel
end
section
theorem dJ0_checkIndex_df160_2 : decode cJ0_checkIndex_df160 2 = .ok (.getstatic 1053, 3) := by decide +kernel
theorem dJ0_checkIndex_df160_5 : decode cJ0_checkIndex_df160 5 = .ok (.invokestatic 1059, 3) := by decide +kernel
theorem dJ0_checkIndex_df160_8 : decode cJ0_checkIndex_df160 8 = .ok (.pop, 1) := by decide +kernel
theorem dJ0_checkIndex_df160_9 : decode cJ0_checkIndex_df160 9 = .ok (.return_, 1) := by decide +kernel
theorem dJ1_charAt_3b067_0 : decode cJ1_charAt_3b067 0 = .ok (.iload_n 1, 1) := by decide +kernel
theorem dJ1_charAt_3b067_1 : decode cJ1_charAt_3b067 1 = .ok (.aload_n 0, 1) := by decide +kernel
theorem dJ1_charAt_3b067_2 : decode cJ1_charAt_3b067 2 = .ok (.arraylength, 1) := by decide +kernel
theorem dJ1_charAt_3b067_3 : decode cJ1_charAt_3b067 3 = .ok (.invokestatic 9, 3) := by decide +kernel
theorem dJ1_charAt_3b067_6 : decode cJ1_charAt_3b067 6 = .ok (.aload_n 0, 1) := by decide +kernel
theorem dJ1_charAt_3b067_7 : decode cJ1_charAt_3b067 7 = .ok (.iload_n 1, 1) := by decide +kernel
theorem dJ1_charAt_3b067_8 : decode cJ1_charAt_3b067 8 = .ok (.baload, 1) := by decide +kernel
theorem dJ1_charAt_3b067_9 : decode cJ1_charAt_3b067 9 = .ok (.sipush 255, 3) := by decide +kernel
theorem dJ1_charAt_3b067_12 : decode cJ1_charAt_3b067 12 = .ok (.iand, 1) := by decide +kernel
theorem dJ1_charAt_3b067_13 : decode cJ1_charAt_3b067 13 = .ok (.i2c, 1) := by decide +kernel
theorem dJ1_charAt_3b067_14 : decode cJ1_charAt_3b067 14 = .ok (.ireturn, 1) := by decide +kernel
theorem dJ2_getChar_3b067_0 : decode cJ2_getChar_3b067 0 = .ok (.getstatic 44, 3) := by decide +kernel
theorem dJ2_getChar_3b067_3 : decode cJ2_getChar_3b067 3 = .ok (.ifCond .ne 25, 3) := by decide +kernel
theorem dJ2_getChar_3b067_6 : decode cJ2_getChar_3b067 6 = .ok (.iload_n 1, 1) := by decide +kernel
theorem dJ2_getChar_3b067_7 : decode cJ2_getChar_3b067 7 = .ok (.ifCond .lt 11, 3) := by decide +kernel
theorem dJ2_getChar_3b067_10 : decode cJ2_getChar_3b067 10 = .ok (.iload_n 1, 1) := by decide +kernel
theorem dJ2_getChar_3b067_11 : decode cJ2_getChar_3b067 11 = .ok (.aload_n 0, 1) := by decide +kernel
theorem dJ2_getChar_3b067_12 : decode cJ2_getChar_3b067 12 = .ok (.invokestatic 48, 3) := by decide +kernel
theorem dJ2_getChar_3b067_15 : decode cJ2_getChar_3b067 15 = .ok (.if_icmp .lt 13, 3) := by decide +kernel
theorem dJ2_getChar_3b067_18 : decode cJ2_getChar_3b067 18 = .ok (.new 52, 3) := by decide +kernel
theorem dJ2_getChar_3b067_21 : decode cJ2_getChar_3b067 21 = .ok (.dup, 1) := by decide +kernel
theorem dJ2_getChar_3b067_22 : decode cJ2_getChar_3b067 22 = .ok (.ldc 54, 2) := by decide +kernel
theorem dJ2_getChar_3b067_24 : decode cJ2_getChar_3b067 24 = .ok (.invokespecial 56, 3) := by decide +kernel
theorem dJ2_getChar_3b067_27 : decode cJ2_getChar_3b067 27 = .ok (.athrow, 1) := by decide +kernel
theorem dJ2_getChar_3b067_28 : decode cJ2_getChar_3b067 28 = .ok (.iload_n 1, 1) := by decide +kernel
theorem dJ2_getChar_3b067_29 : decode cJ2_getChar_3b067 29 = .ok (.iconst 1, 1) := by decide +kernel
theorem dJ2_getChar_3b067_30 : decode cJ2_getChar_3b067 30 = .ok (.ishl, 1) := by decide +kernel
theorem dJ2_getChar_3b067_31 : decode cJ2_getChar_3b067 31 = .ok (.istore_n 1, 1) := by decide +kernel
theorem dJ2_getChar_3b067_32 : decode cJ2_getChar_3b067 32 = .ok (.aload_n 0, 1) := by decide +kernel
theorem dJ2_getChar_3b067_33 : decode cJ2_getChar_3b067 33 = .ok (.iload_n 1, 1) := by decide +kernel
theorem dJ2_getChar_3b067_34 : decode cJ2_getChar_3b067 34 = .ok (.iinc 1 1, 3) := by decide +kernel
theorem dJ2_getChar_3b067_37 : decode cJ2_getChar_3b067 37 = .ok (.baload, 1) := by decide +kernel
theorem dJ2_getChar_3b067_38 : decode cJ2_getChar_3b067 38 = .ok (.sipush 255, 3) := by decide +kernel
theorem dJ2_getChar_3b067_41 : decode cJ2_getChar_3b067 41 = .ok (.iand, 1) := by decide +kernel
theorem dJ2_getChar_3b067_42 : decode cJ2_getChar_3b067 42 = .ok (.getstatic 59, 3) := by decide +kernel
theorem dJ2_getChar_3b067_45 : decode cJ2_getChar_3b067 45 = .ok (.ishl, 1) := by decide +kernel
theorem dJ2_getChar_3b067_46 : decode cJ2_getChar_3b067 46 = .ok (.aload_n 0, 1) := by decide +kernel
theorem dJ2_getChar_3b067_47 : decode cJ2_getChar_3b067 47 = .ok (.iload_n 1, 1) := by decide +kernel
theorem dJ2_getChar_3b067_48 : decode cJ2_getChar_3b067 48 = .ok (.baload, 1) := by decide +kernel
theorem dJ2_getChar_3b067_49 : decode cJ2_getChar_3b067 49 = .ok (.sipush 255, 3) := by decide +kernel
theorem dJ2_getChar_3b067_52 : decode cJ2_getChar_3b067 52 = .ok (.iand, 1) := by decide +kernel
theorem dJ2_getChar_3b067_53 : decode cJ2_getChar_3b067 53 = .ok (.getstatic 63, 3) := by decide +kernel
theorem dJ2_getChar_3b067_56 : decode cJ2_getChar_3b067 56 = .ok (.ishl, 1) := by decide +kernel
theorem dJ2_getChar_3b067_57 : decode cJ2_getChar_3b067 57 = .ok (.ior, 1) := by decide +kernel
theorem dJ2_getChar_3b067_58 : decode cJ2_getChar_3b067 58 = .ok (.i2c, 1) := by decide +kernel
theorem dJ2_getChar_3b067_59 : decode cJ2_getChar_3b067 59 = .ok (.ireturn, 1) := by decide +kernel
theorem dJ2_length_9d52b_0 : decode cJ2_length_9d52b 0 = .ok (.aload_n 0, 1) := by decide +kernel
theorem dJ2_length_9d52b_1 : decode cJ2_length_9d52b 1 = .ok (.arraylength, 1) := by decide +kernel
theorem dJ2_length_9d52b_2 : decode cJ2_length_9d52b 2 = .ok (.iconst 1, 1) := by decide +kernel
theorem dJ2_length_9d52b_3 : decode cJ2_length_9d52b 3 = .ok (.ishr, 1) := by decide +kernel
theorem dJ2_length_9d52b_4 : decode cJ2_length_9d52b 4 = .ok (.ireturn, 1) := by decide +kernel
theorem dJ2_charAt_3b067_0 : decode cJ2_charAt_3b067 0 = .ok (.iload_n 1, 1) := by decide +kernel
theorem dJ2_charAt_3b067_1 : decode cJ2_charAt_3b067 1 = .ok (.aload_n 0, 1) := by decide +kernel
theorem dJ2_charAt_3b067_2 : decode cJ2_charAt_3b067 2 = .ok (.invokestatic 67, 3) := by decide +kernel
theorem dJ2_charAt_3b067_5 : decode cJ2_charAt_3b067 5 = .ok (.aload_n 0, 1) := by decide +kernel
theorem dJ2_charAt_3b067_6 : decode cJ2_charAt_3b067 6 = .ok (.iload_n 1, 1) := by decide +kernel
theorem dJ2_charAt_3b067_7 : decode cJ2_charAt_3b067 7 = .ok (.invokestatic 71, 3) := by decide +kernel
theorem dJ2_charAt_3b067_10 : decode cJ2_charAt_3b067 10 = .ok (.ireturn, 1) := by decide +kernel
theorem dJ2_checkIndex_2214a_0 : decode cJ2_checkIndex_2214a 0 = .ok (.iload_n 0, 1) := by decide +kernel
theorem dJ2_checkIndex_2214a_1 : decode cJ2_checkIndex_2214a 1 = .ok (.aload_n 1, 1) := by decide +kernel
theorem dJ2_checkIndex_2214a_2 : decode cJ2_checkIndex_2214a 2 = .ok (.invokestatic 48, 3) := by decide +kernel
theorem dJ2_checkIndex_2214a_5 : decode cJ2_checkIndex_2214a 5 = .ok (.invokestatic 414, 3) := by decide +kernel
theorem dJ2_checkIndex_2214a_8 : decode cJ2_checkIndex_2214a 8 = .ok (.return_, 1) := by decide +kernel
theorem dJ3_checkIndex_8e157_0 : decode cJ3_checkIndex_8e157 0 = .ok (.iload_n 0, 1) := by decide +kernel
theorem dJ3_checkIndex_8e157_1 : decode cJ3_checkIndex_8e157 1 = .ok (.ifCond .lt 8, 3) := by decide +kernel
theorem dJ3_checkIndex_8e157_4 : decode cJ3_checkIndex_8e157 4 = .ok (.iload_n 0, 1) := by decide +kernel
theorem dJ3_checkIndex_8e157_5 : decode cJ3_checkIndex_8e157 5 = .ok (.iload_n 1, 1) := by decide +kernel
theorem dJ3_checkIndex_8e157_6 : decode cJ3_checkIndex_8e157 6 = .ok (.if_icmp .lt 10, 3) := by decide +kernel
theorem dJ3_checkIndex_8e157_9 : decode cJ3_checkIndex_8e157 9 = .ok (.aload_n 2, 1) := by decide +kernel
theorem dJ3_checkIndex_8e157_10 : decode cJ3_checkIndex_8e157 10 = .ok (.iload_n 0, 1) := by decide +kernel
theorem dJ3_checkIndex_8e157_11 : decode cJ3_checkIndex_8e157 11 = .ok (.iload_n 1, 1) := by decide +kernel
theorem dJ3_checkIndex_8e157_12 : decode cJ3_checkIndex_8e157 12 = .ok (.invokestatic 95, 3) := by decide +kernel
theorem dJ3_checkIndex_8e157_15 : decode cJ3_checkIndex_8e157 15 = .ok (.athrow, 1) := by decide +kernel
theorem dJ3_checkIndex_8e157_16 : decode cJ3_checkIndex_8e157 16 = .ok (.iload_n 0, 1) := by decide +kernel
theorem dJ3_checkIndex_8e157_17 : decode cJ3_checkIndex_8e157 17 = .ok (.ireturn, 1) := by decide +kernel
theorem dL_law_0 : decode cL_law 0 = .ok (.new 7, 3) := by decide +kernel
theorem dL_law_3 : decode cL_law 3 = .ok (.dup, 1) := by decide +kernel
theorem dL_law_4 : decode cL_law 4 = .ok (.invokespecial 9, 3) := by decide +kernel
theorem dL_law_7 : decode cL_law 7 = .ok (.astore_n 1, 1) := by decide +kernel
theorem dL_law_8 : decode cL_law 8 = .ok (.new 10, 3) := by decide +kernel
theorem dL_law_11 : decode cL_law 11 = .ok (.dup, 1) := by decide +kernel
theorem dL_law_12 : decode cL_law 12 = .ok (.invokespecial 12, 3) := by decide +kernel
theorem dL_law_15 : decode cL_law 15 = .ok (.astore_n 2, 1) := by decide +kernel
theorem dL_law_16 : decode cL_law 16 = .ok (.iconst 0, 1) := by decide +kernel
theorem dL_law_17 : decode cL_law 17 = .ok (.istore_n 3, 1) := by decide +kernel
theorem dL_law_18 : decode cL_law 18 = .ok (.iload_n 3, 1) := by decide +kernel
theorem dL_law_19 : decode cL_law 19 = .ok (.aload_n 0, 1) := by decide +kernel
theorem dL_law_20 : decode cL_law 20 = .ok (.arraylength, 1) := by decide +kernel
theorem dL_law_21 : decode cL_law 21 = .ok (.bipush 6, 2) := by decide +kernel
theorem dL_law_23 : decode cL_law 23 = .ok (.isub, 1) := by decide +kernel
theorem dL_law_24 : decode cL_law 24 = .ok (.if_icmp .gt 1192, 3) := by decide +kernel
theorem dL_law_27 : decode cL_law 27 = .ok (.aload_n 0, 1) := by decide +kernel
theorem dL_law_28 : decode cL_law 28 = .ok (.iload_n 3, 1) := by decide +kernel
theorem dL_law_29 : decode cL_law 29 = .ok (.iaload, 1) := by decide +kernel
theorem dL_law_30 : decode cL_law 30 = .ok (.bipush 31, 2) := by decide +kernel
theorem dL_law_32 : decode cL_law 32 = .ok (.iand, 1) := by decide +kernel
theorem dL_law_33 : decode cL_law 33 = .ok (.tableswitch 1177 0 29 #[135, 178, 221, 254, 287, 330, 353, 376, 389, 412, 445, 458, 501, 524, 557, 590, 643, 686, 710, 763, 806, 839, 893, 906, 919, 942, 985, 1028, 1091, 1144], 135) := by decide +kernel
theorem dL_law_168 : decode cL_law 168 = .ok (.aload_n 1, 1) := by decide +kernel
theorem dL_law_169 : decode cL_law 169 = .ok (.aload_n 0, 1) := by decide +kernel
theorem dL_law_170 : decode cL_law 170 = .ok (.iload_n 3, 1) := by decide +kernel
theorem dL_law_171 : decode cL_law 171 = .ok (.iconst 1, 1) := by decide +kernel
theorem dL_law_172 : decode cL_law 172 = .ok (.iadd, 1) := by decide +kernel
theorem dL_law_173 : decode cL_law 173 = .ok (.iaload, 1) := by decide +kernel
theorem dL_law_174 : decode cL_law 174 = .ok (.aload_n 0, 1) := by decide +kernel
theorem dL_law_175 : decode cL_law 175 = .ok (.iload_n 3, 1) := by decide +kernel
theorem dL_law_176 : decode cL_law 176 = .ok (.iconst 2, 1) := by decide +kernel
theorem dL_law_177 : decode cL_law 177 = .ok (.iadd, 1) := by decide +kernel
theorem dL_law_178 : decode cL_law 178 = .ok (.iaload, 1) := by decide +kernel
theorem dL_law_179 : decode cL_law 179 = .ok (.aload_n 0, 1) := by decide +kernel
theorem dL_law_180 : decode cL_law 180 = .ok (.iload_n 3, 1) := by decide +kernel
theorem dL_law_181 : decode cL_law 181 = .ok (.iconst 3, 1) := by decide +kernel
theorem dL_law_182 : decode cL_law 182 = .ok (.iadd, 1) := by decide +kernel
theorem dL_law_183 : decode cL_law 183 = .ok (.iaload, 1) := by decide +kernel
theorem dL_law_184 : decode cL_law 184 = .ok (.invokevirtual 13, 3) := by decide +kernel
theorem dL_law_187 : decode cL_law 187 = .ok (.aload_n 2, 1) := by decide +kernel
theorem dL_law_188 : decode cL_law 188 = .ok (.aload_n 0, 1) := by decide +kernel
theorem dL_law_189 : decode cL_law 189 = .ok (.iload_n 3, 1) := by decide +kernel
theorem dL_law_190 : decode cL_law 190 = .ok (.iconst 1, 1) := by decide +kernel
theorem dL_law_191 : decode cL_law 191 = .ok (.iadd, 1) := by decide +kernel
theorem dL_law_192 : decode cL_law 192 = .ok (.iaload, 1) := by decide +kernel
theorem dL_law_193 : decode cL_law 193 = .ok (.aload_n 0, 1) := by decide +kernel
theorem dL_law_194 : decode cL_law 194 = .ok (.iload_n 3, 1) := by decide +kernel
theorem dL_law_195 : decode cL_law 195 = .ok (.iconst 2, 1) := by decide +kernel
theorem dL_law_196 : decode cL_law 196 = .ok (.iadd, 1) := by decide +kernel
theorem dL_law_197 : decode cL_law 197 = .ok (.iaload, 1) := by decide +kernel
theorem dL_law_198 : decode cL_law 198 = .ok (.aload_n 0, 1) := by decide +kernel
theorem dL_law_199 : decode cL_law 199 = .ok (.iload_n 3, 1) := by decide +kernel
theorem dL_law_200 : decode cL_law 200 = .ok (.iconst 3, 1) := by decide +kernel
theorem dL_law_201 : decode cL_law 201 = .ok (.iadd, 1) := by decide +kernel
theorem dL_law_202 : decode cL_law 202 = .ok (.iaload, 1) := by decide +kernel
theorem dL_law_203 : decode cL_law 203 = .ok (.invokevirtual 17, 3) := by decide +kernel
theorem dL_law_206 : decode cL_law 206 = .ok (.if_icmp .eq 1004, 3) := by decide +kernel
theorem dL_law_209 : decode cL_law 209 = .ok (.iconst 0, 1) := by decide +kernel
theorem dL_law_210 : decode cL_law 210 = .ok (.ireturn, 1) := by decide +kernel
theorem dL_law_211 : decode cL_law 211 = .ok (.aload_n 1, 1) := by decide +kernel
theorem dL_law_212 : decode cL_law 212 = .ok (.aload_n 0, 1) := by decide +kernel
theorem dL_law_213 : decode cL_law 213 = .ok (.iload_n 3, 1) := by decide +kernel
theorem dL_law_214 : decode cL_law 214 = .ok (.iconst 1, 1) := by decide +kernel
theorem dL_law_215 : decode cL_law 215 = .ok (.iadd, 1) := by decide +kernel
theorem dL_law_216 : decode cL_law 216 = .ok (.iaload, 1) := by decide +kernel
theorem dL_law_217 : decode cL_law 217 = .ok (.aload_n 0, 1) := by decide +kernel
theorem dL_law_218 : decode cL_law 218 = .ok (.iload_n 3, 1) := by decide +kernel
theorem dL_law_219 : decode cL_law 219 = .ok (.iconst 2, 1) := by decide +kernel
theorem dL_law_220 : decode cL_law 220 = .ok (.iadd, 1) := by decide +kernel
theorem dL_law_221 : decode cL_law 221 = .ok (.iaload, 1) := by decide +kernel
theorem dL_law_222 : decode cL_law 222 = .ok (.aload_n 0, 1) := by decide +kernel
theorem dL_law_223 : decode cL_law 223 = .ok (.iload_n 3, 1) := by decide +kernel
theorem dL_law_224 : decode cL_law 224 = .ok (.iconst 3, 1) := by decide +kernel
theorem dL_law_225 : decode cL_law 225 = .ok (.iadd, 1) := by decide +kernel
theorem dL_law_226 : decode cL_law 226 = .ok (.iaload, 1) := by decide +kernel
theorem dL_law_227 : decode cL_law 227 = .ok (.invokevirtual 18, 3) := by decide +kernel
theorem dL_law_230 : decode cL_law 230 = .ok (.aload_n 2, 1) := by decide +kernel
theorem dL_law_231 : decode cL_law 231 = .ok (.aload_n 0, 1) := by decide +kernel
theorem dL_law_232 : decode cL_law 232 = .ok (.iload_n 3, 1) := by decide +kernel
theorem dL_law_233 : decode cL_law 233 = .ok (.iconst 1, 1) := by decide +kernel
theorem dL_law_234 : decode cL_law 234 = .ok (.iadd, 1) := by decide +kernel
theorem dL_law_235 : decode cL_law 235 = .ok (.iaload, 1) := by decide +kernel
theorem dL_law_236 : decode cL_law 236 = .ok (.aload_n 0, 1) := by decide +kernel
theorem dL_law_237 : decode cL_law 237 = .ok (.iload_n 3, 1) := by decide +kernel
theorem dL_law_238 : decode cL_law 238 = .ok (.iconst 2, 1) := by decide +kernel
theorem dL_law_239 : decode cL_law 239 = .ok (.iadd, 1) := by decide +kernel
theorem dL_law_240 : decode cL_law 240 = .ok (.iaload, 1) := by decide +kernel
theorem dL_law_241 : decode cL_law 241 = .ok (.aload_n 0, 1) := by decide +kernel
theorem dL_law_242 : decode cL_law 242 = .ok (.iload_n 3, 1) := by decide +kernel
theorem dL_law_243 : decode cL_law 243 = .ok (.iconst 3, 1) := by decide +kernel
theorem dL_law_244 : decode cL_law 244 = .ok (.iadd, 1) := by decide +kernel
theorem dL_law_245 : decode cL_law 245 = .ok (.iaload, 1) := by decide +kernel
theorem dL_law_246 : decode cL_law 246 = .ok (.invokevirtual 21, 3) := by decide +kernel
theorem dL_law_249 : decode cL_law 249 = .ok (.if_icmp .eq 961, 3) := by decide +kernel
theorem dL_law_252 : decode cL_law 252 = .ok (.iconst 0, 1) := by decide +kernel
theorem dL_law_253 : decode cL_law 253 = .ok (.ireturn, 1) := by decide +kernel
theorem dL_law_254 : decode cL_law 254 = .ok (.aload_n 1, 1) := by decide +kernel
theorem dL_law_255 : decode cL_law 255 = .ok (.aload_n 0, 1) := by decide +kernel
theorem dL_law_256 : decode cL_law 256 = .ok (.iload_n 3, 1) := by decide +kernel
theorem dL_law_257 : decode cL_law 257 = .ok (.iconst 1, 1) := by decide +kernel
theorem dL_law_258 : decode cL_law 258 = .ok (.iadd, 1) := by decide +kernel
theorem dL_law_259 : decode cL_law 259 = .ok (.iaload, 1) := by decide +kernel
theorem dL_law_260 : decode cL_law 260 = .ok (.aload_n 0, 1) := by decide +kernel
theorem dL_law_261 : decode cL_law 261 = .ok (.iload_n 3, 1) := by decide +kernel
theorem dL_law_262 : decode cL_law 262 = .ok (.iconst 2, 1) := by decide +kernel
theorem dL_law_263 : decode cL_law 263 = .ok (.iadd, 1) := by decide +kernel
theorem dL_law_264 : decode cL_law 264 = .ok (.iaload, 1) := by decide +kernel
theorem dL_law_265 : decode cL_law 265 = .ok (.invokevirtual 22, 3) := by decide +kernel
theorem dL_law_268 : decode cL_law 268 = .ok (.aload_n 2, 1) := by decide +kernel
theorem dL_law_269 : decode cL_law 269 = .ok (.aload_n 0, 1) := by decide +kernel
theorem dL_law_270 : decode cL_law 270 = .ok (.iload_n 3, 1) := by decide +kernel
theorem dL_law_271 : decode cL_law 271 = .ok (.iconst 1, 1) := by decide +kernel
theorem dL_law_272 : decode cL_law 272 = .ok (.iadd, 1) := by decide +kernel
theorem dL_law_273 : decode cL_law 273 = .ok (.iaload, 1) := by decide +kernel
theorem dL_law_274 : decode cL_law 274 = .ok (.aload_n 0, 1) := by decide +kernel
theorem dL_law_275 : decode cL_law 275 = .ok (.iload_n 3, 1) := by decide +kernel
theorem dL_law_276 : decode cL_law 276 = .ok (.iconst 2, 1) := by decide +kernel
theorem dL_law_277 : decode cL_law 277 = .ok (.iadd, 1) := by decide +kernel
theorem dL_law_278 : decode cL_law 278 = .ok (.iaload, 1) := by decide +kernel
theorem dL_law_279 : decode cL_law 279 = .ok (.invokevirtual 26, 3) := by decide +kernel
theorem dL_law_282 : decode cL_law 282 = .ok (.if_icmp .eq 928, 3) := by decide +kernel
theorem dL_law_285 : decode cL_law 285 = .ok (.iconst 0, 1) := by decide +kernel
theorem dL_law_286 : decode cL_law 286 = .ok (.ireturn, 1) := by decide +kernel
theorem dL_law_287 : decode cL_law 287 = .ok (.aload_n 1, 1) := by decide +kernel
theorem dL_law_288 : decode cL_law 288 = .ok (.aload_n 0, 1) := by decide +kernel
theorem dL_law_289 : decode cL_law 289 = .ok (.iload_n 3, 1) := by decide +kernel
theorem dL_law_290 : decode cL_law 290 = .ok (.iconst 1, 1) := by decide +kernel
theorem dL_law_291 : decode cL_law 291 = .ok (.iadd, 1) := by decide +kernel
theorem dL_law_292 : decode cL_law 292 = .ok (.iaload, 1) := by decide +kernel
theorem dL_law_293 : decode cL_law 293 = .ok (.aload_n 0, 1) := by decide +kernel
theorem dL_law_294 : decode cL_law 294 = .ok (.iload_n 3, 1) := by decide +kernel
theorem dL_law_295 : decode cL_law 295 = .ok (.iconst 2, 1) := by decide +kernel
theorem dL_law_296 : decode cL_law 296 = .ok (.iadd, 1) := by decide +kernel
theorem dL_law_297 : decode cL_law 297 = .ok (.iaload, 1) := by decide +kernel
theorem dL_law_298 : decode cL_law 298 = .ok (.invokevirtual 27, 3) := by decide +kernel
theorem dL_law_301 : decode cL_law 301 = .ok (.aload_n 2, 1) := by decide +kernel
theorem dL_law_302 : decode cL_law 302 = .ok (.aload_n 0, 1) := by decide +kernel
theorem dL_law_303 : decode cL_law 303 = .ok (.iload_n 3, 1) := by decide +kernel
theorem dL_law_304 : decode cL_law 304 = .ok (.iconst 1, 1) := by decide +kernel
theorem dL_law_305 : decode cL_law 305 = .ok (.iadd, 1) := by decide +kernel
theorem dL_law_306 : decode cL_law 306 = .ok (.iaload, 1) := by decide +kernel
theorem dL_law_307 : decode cL_law 307 = .ok (.aload_n 0, 1) := by decide +kernel
theorem dL_law_308 : decode cL_law 308 = .ok (.iload_n 3, 1) := by decide +kernel
theorem dL_law_309 : decode cL_law 309 = .ok (.iconst 2, 1) := by decide +kernel
theorem dL_law_310 : decode cL_law 310 = .ok (.iadd, 1) := by decide +kernel
theorem dL_law_311 : decode cL_law 311 = .ok (.iaload, 1) := by decide +kernel
theorem dL_law_312 : decode cL_law 312 = .ok (.invokevirtual 30, 3) := by decide +kernel
theorem dL_law_315 : decode cL_law 315 = .ok (.if_icmp .eq 895, 3) := by decide +kernel
theorem dL_law_318 : decode cL_law 318 = .ok (.iconst 0, 1) := by decide +kernel
theorem dL_law_319 : decode cL_law 319 = .ok (.ireturn, 1) := by decide +kernel
theorem dL_law_320 : decode cL_law 320 = .ok (.aload_n 1, 1) := by decide +kernel
theorem dL_law_321 : decode cL_law 321 = .ok (.aload_n 0, 1) := by decide +kernel
theorem dL_law_322 : decode cL_law 322 = .ok (.iload_n 3, 1) := by decide +kernel
theorem dL_law_323 : decode cL_law 323 = .ok (.iconst 1, 1) := by decide +kernel
theorem dL_law_324 : decode cL_law 324 = .ok (.iadd, 1) := by decide +kernel
theorem dL_law_325 : decode cL_law 325 = .ok (.iaload, 1) := by decide +kernel
theorem dL_law_326 : decode cL_law 326 = .ok (.aload_n 0, 1) := by decide +kernel
theorem dL_law_327 : decode cL_law 327 = .ok (.iload_n 3, 1) := by decide +kernel
theorem dL_law_328 : decode cL_law 328 = .ok (.iconst 2, 1) := by decide +kernel
theorem dL_law_329 : decode cL_law 329 = .ok (.iadd, 1) := by decide +kernel
theorem dL_law_330 : decode cL_law 330 = .ok (.iaload, 1) := by decide +kernel
theorem dL_law_331 : decode cL_law 331 = .ok (.aload_n 0, 1) := by decide +kernel
theorem dL_law_332 : decode cL_law 332 = .ok (.iload_n 3, 1) := by decide +kernel
theorem dL_law_333 : decode cL_law 333 = .ok (.iconst 3, 1) := by decide +kernel
theorem dL_law_334 : decode cL_law 334 = .ok (.iadd, 1) := by decide +kernel
theorem dL_law_335 : decode cL_law 335 = .ok (.iaload, 1) := by decide +kernel
theorem dL_law_336 : decode cL_law 336 = .ok (.invokevirtual 31, 3) := by decide +kernel
theorem dL_law_339 : decode cL_law 339 = .ok (.aload_n 2, 1) := by decide +kernel
theorem dL_law_340 : decode cL_law 340 = .ok (.aload_n 0, 1) := by decide +kernel
theorem dL_law_341 : decode cL_law 341 = .ok (.iload_n 3, 1) := by decide +kernel
theorem dL_law_342 : decode cL_law 342 = .ok (.iconst 1, 1) := by decide +kernel
theorem dL_law_343 : decode cL_law 343 = .ok (.iadd, 1) := by decide +kernel
theorem dL_law_344 : decode cL_law 344 = .ok (.iaload, 1) := by decide +kernel
theorem dL_law_345 : decode cL_law 345 = .ok (.aload_n 0, 1) := by decide +kernel
theorem dL_law_346 : decode cL_law 346 = .ok (.iload_n 3, 1) := by decide +kernel
theorem dL_law_347 : decode cL_law 347 = .ok (.iconst 2, 1) := by decide +kernel
theorem dL_law_348 : decode cL_law 348 = .ok (.iadd, 1) := by decide +kernel
theorem dL_law_349 : decode cL_law 349 = .ok (.iaload, 1) := by decide +kernel
theorem dL_law_350 : decode cL_law 350 = .ok (.aload_n 0, 1) := by decide +kernel
theorem dL_law_351 : decode cL_law 351 = .ok (.iload_n 3, 1) := by decide +kernel
theorem dL_law_352 : decode cL_law 352 = .ok (.iconst 3, 1) := by decide +kernel
theorem dL_law_353 : decode cL_law 353 = .ok (.iadd, 1) := by decide +kernel
theorem dL_law_354 : decode cL_law 354 = .ok (.iaload, 1) := by decide +kernel
theorem dL_law_355 : decode cL_law 355 = .ok (.invokevirtual 34, 3) := by decide +kernel
theorem dL_law_358 : decode cL_law 358 = .ok (.if_icmp .eq 852, 3) := by decide +kernel
theorem dL_law_361 : decode cL_law 361 = .ok (.iconst 0, 1) := by decide +kernel
theorem dL_law_362 : decode cL_law 362 = .ok (.ireturn, 1) := by decide +kernel
theorem dL_law_363 : decode cL_law 363 = .ok (.aload_n 1, 1) := by decide +kernel
theorem dL_law_364 : decode cL_law 364 = .ok (.aload_n 0, 1) := by decide +kernel
theorem dL_law_365 : decode cL_law 365 = .ok (.iload_n 3, 1) := by decide +kernel
theorem dL_law_366 : decode cL_law 366 = .ok (.iconst 1, 1) := by decide +kernel
theorem dL_law_367 : decode cL_law 367 = .ok (.iadd, 1) := by decide +kernel
theorem dL_law_368 : decode cL_law 368 = .ok (.iaload, 1) := by decide +kernel
theorem dL_law_369 : decode cL_law 369 = .ok (.invokevirtual 35, 3) := by decide +kernel
theorem dL_law_372 : decode cL_law 372 = .ok (.aload_n 2, 1) := by decide +kernel
theorem dL_law_373 : decode cL_law 373 = .ok (.aload_n 0, 1) := by decide +kernel
theorem dL_law_374 : decode cL_law 374 = .ok (.iload_n 3, 1) := by decide +kernel
theorem dL_law_375 : decode cL_law 375 = .ok (.iconst 1, 1) := by decide +kernel
theorem dL_law_376 : decode cL_law 376 = .ok (.iadd, 1) := by decide +kernel
theorem dL_law_377 : decode cL_law 377 = .ok (.iaload, 1) := by decide +kernel
theorem dL_law_378 : decode cL_law 378 = .ok (.invokevirtual 39, 3) := by decide +kernel
theorem dL_law_381 : decode cL_law 381 = .ok (.if_icmp .eq 829, 3) := by decide +kernel
theorem dL_law_384 : decode cL_law 384 = .ok (.iconst 0, 1) := by decide +kernel
theorem dL_law_385 : decode cL_law 385 = .ok (.ireturn, 1) := by decide +kernel
theorem dL_law_386 : decode cL_law 386 = .ok (.aload_n 1, 1) := by decide +kernel
theorem dL_law_387 : decode cL_law 387 = .ok (.aload_n 0, 1) := by decide +kernel
theorem dL_law_388 : decode cL_law 388 = .ok (.iload_n 3, 1) := by decide +kernel
theorem dL_law_389 : decode cL_law 389 = .ok (.iconst 1, 1) := by decide +kernel
theorem dL_law_390 : decode cL_law 390 = .ok (.iadd, 1) := by decide +kernel
theorem dL_law_391 : decode cL_law 391 = .ok (.iaload, 1) := by decide +kernel
theorem dL_law_392 : decode cL_law 392 = .ok (.invokevirtual 40, 3) := by decide +kernel
theorem dL_law_395 : decode cL_law 395 = .ok (.aload_n 2, 1) := by decide +kernel
theorem dL_law_396 : decode cL_law 396 = .ok (.aload_n 0, 1) := by decide +kernel
theorem dL_law_397 : decode cL_law 397 = .ok (.iload_n 3, 1) := by decide +kernel
theorem dL_law_398 : decode cL_law 398 = .ok (.iconst 1, 1) := by decide +kernel
theorem dL_law_399 : decode cL_law 399 = .ok (.iadd, 1) := by decide +kernel
theorem dL_law_400 : decode cL_law 400 = .ok (.iaload, 1) := by decide +kernel
theorem dL_law_401 : decode cL_law 401 = .ok (.invokevirtual 43, 3) := by decide +kernel
theorem dL_law_404 : decode cL_law 404 = .ok (.if_icmp .eq 806, 3) := by decide +kernel
theorem dL_law_407 : decode cL_law 407 = .ok (.iconst 0, 1) := by decide +kernel
theorem dL_law_408 : decode cL_law 408 = .ok (.ireturn, 1) := by decide +kernel
theorem dL_law_409 : decode cL_law 409 = .ok (.aload_n 1, 1) := by decide +kernel
theorem dL_law_410 : decode cL_law 410 = .ok (.invokevirtual 44, 3) := by decide +kernel
theorem dL_law_413 : decode cL_law 413 = .ok (.aload_n 2, 1) := by decide +kernel
theorem dL_law_414 : decode cL_law 414 = .ok (.invokevirtual 48, 3) := by decide +kernel
theorem dL_law_417 : decode cL_law 417 = .ok (.if_icmp .eq 793, 3) := by decide +kernel
theorem dL_law_420 : decode cL_law 420 = .ok (.iconst 0, 1) := by decide +kernel
theorem dL_law_421 : decode cL_law 421 = .ok (.ireturn, 1) := by decide +kernel
theorem dL_law_422 : decode cL_law 422 = .ok (.aload_n 1, 1) := by decide +kernel
theorem dL_law_423 : decode cL_law 423 = .ok (.aload_n 0, 1) := by decide +kernel
theorem dL_law_424 : decode cL_law 424 = .ok (.iload_n 3, 1) := by decide +kernel
theorem dL_law_425 : decode cL_law 425 = .ok (.iconst 1, 1) := by decide +kernel
theorem dL_law_426 : decode cL_law 426 = .ok (.iadd, 1) := by decide +kernel
theorem dL_law_427 : decode cL_law 427 = .ok (.iaload, 1) := by decide +kernel
theorem dL_law_428 : decode cL_law 428 = .ok (.invokevirtual 49, 3) := by decide +kernel
theorem dL_law_431 : decode cL_law 431 = .ok (.aload_n 2, 1) := by decide +kernel
theorem dL_law_432 : decode cL_law 432 = .ok (.aload_n 0, 1) := by decide +kernel
theorem dL_law_433 : decode cL_law 433 = .ok (.iload_n 3, 1) := by decide +kernel
theorem dL_law_434 : decode cL_law 434 = .ok (.iconst 1, 1) := by decide +kernel
theorem dL_law_435 : decode cL_law 435 = .ok (.iadd, 1) := by decide +kernel
theorem dL_law_436 : decode cL_law 436 = .ok (.iaload, 1) := by decide +kernel
theorem dL_law_437 : decode cL_law 437 = .ok (.invokevirtual 52, 3) := by decide +kernel
theorem dL_law_440 : decode cL_law 440 = .ok (.if_icmp .eq 770, 3) := by decide +kernel
theorem dL_law_443 : decode cL_law 443 = .ok (.iconst 0, 1) := by decide +kernel
theorem dL_law_444 : decode cL_law 444 = .ok (.ireturn, 1) := by decide +kernel
theorem dL_law_445 : decode cL_law 445 = .ok (.aload_n 1, 1) := by decide +kernel
theorem dL_law_446 : decode cL_law 446 = .ok (.aload_n 0, 1) := by decide +kernel
theorem dL_law_447 : decode cL_law 447 = .ok (.iload_n 3, 1) := by decide +kernel
theorem dL_law_448 : decode cL_law 448 = .ok (.iconst 1, 1) := by decide +kernel
theorem dL_law_449 : decode cL_law 449 = .ok (.iadd, 1) := by decide +kernel
theorem dL_law_450 : decode cL_law 450 = .ok (.iaload, 1) := by decide +kernel
theorem dL_law_451 : decode cL_law 451 = .ok (.aload_n 0, 1) := by decide +kernel
theorem dL_law_452 : decode cL_law 452 = .ok (.iload_n 3, 1) := by decide +kernel
theorem dL_law_453 : decode cL_law 453 = .ok (.iconst 2, 1) := by decide +kernel
theorem dL_law_454 : decode cL_law 454 = .ok (.iadd, 1) := by decide +kernel
theorem dL_law_455 : decode cL_law 455 = .ok (.iaload, 1) := by decide +kernel
theorem dL_law_456 : decode cL_law 456 = .ok (.invokevirtual 53, 3) := by decide +kernel
theorem dL_law_459 : decode cL_law 459 = .ok (.aload_n 2, 1) := by decide +kernel
theorem dL_law_460 : decode cL_law 460 = .ok (.aload_n 0, 1) := by decide +kernel
theorem dL_law_461 : decode cL_law 461 = .ok (.iload_n 3, 1) := by decide +kernel
theorem dL_law_462 : decode cL_law 462 = .ok (.iconst 1, 1) := by decide +kernel
theorem dL_law_463 : decode cL_law 463 = .ok (.iadd, 1) := by decide +kernel
theorem dL_law_464 : decode cL_law 464 = .ok (.iaload, 1) := by decide +kernel
theorem dL_law_465 : decode cL_law 465 = .ok (.aload_n 0, 1) := by decide +kernel
theorem dL_law_466 : decode cL_law 466 = .ok (.iload_n 3, 1) := by decide +kernel
theorem dL_law_467 : decode cL_law 467 = .ok (.iconst 2, 1) := by decide +kernel
theorem dL_law_468 : decode cL_law 468 = .ok (.iadd, 1) := by decide +kernel
theorem dL_law_469 : decode cL_law 469 = .ok (.iaload, 1) := by decide +kernel
theorem dL_law_470 : decode cL_law 470 = .ok (.invokevirtual 56, 3) := by decide +kernel
theorem dL_law_473 : decode cL_law 473 = .ok (.if_icmp .eq 737, 3) := by decide +kernel
theorem dL_law_476 : decode cL_law 476 = .ok (.iconst 0, 1) := by decide +kernel
theorem dL_law_477 : decode cL_law 477 = .ok (.ireturn, 1) := by decide +kernel
theorem dL_law_478 : decode cL_law 478 = .ok (.aload_n 1, 1) := by decide +kernel
theorem dL_law_479 : decode cL_law 479 = .ok (.invokevirtual 57, 3) := by decide +kernel
theorem dL_law_482 : decode cL_law 482 = .ok (.aload_n 2, 1) := by decide +kernel
theorem dL_law_483 : decode cL_law 483 = .ok (.invokevirtual 60, 3) := by decide +kernel
theorem dL_law_486 : decode cL_law 486 = .ok (.if_icmp .eq 724, 3) := by decide +kernel
theorem dL_law_489 : decode cL_law 489 = .ok (.iconst 0, 1) := by decide +kernel
theorem dL_law_490 : decode cL_law 490 = .ok (.ireturn, 1) := by decide +kernel
theorem dL_law_491 : decode cL_law 491 = .ok (.aload_n 1, 1) := by decide +kernel
theorem dL_law_492 : decode cL_law 492 = .ok (.aload_n 0, 1) := by decide +kernel
theorem dL_law_493 : decode cL_law 493 = .ok (.iload_n 3, 1) := by decide +kernel
theorem dL_law_494 : decode cL_law 494 = .ok (.iconst 1, 1) := by decide +kernel
theorem dL_law_495 : decode cL_law 495 = .ok (.iadd, 1) := by decide +kernel
theorem dL_law_496 : decode cL_law 496 = .ok (.iaload, 1) := by decide +kernel
theorem dL_law_497 : decode cL_law 497 = .ok (.aload_n 0, 1) := by decide +kernel
theorem dL_law_498 : decode cL_law 498 = .ok (.iload_n 3, 1) := by decide +kernel
theorem dL_law_499 : decode cL_law 499 = .ok (.iconst 2, 1) := by decide +kernel
theorem dL_law_500 : decode cL_law 500 = .ok (.iadd, 1) := by decide +kernel
theorem dL_law_501 : decode cL_law 501 = .ok (.iaload, 1) := by decide +kernel
theorem dL_law_502 : decode cL_law 502 = .ok (.aload_n 0, 1) := by decide +kernel
theorem dL_law_503 : decode cL_law 503 = .ok (.iload_n 3, 1) := by decide +kernel
theorem dL_law_504 : decode cL_law 504 = .ok (.iconst 3, 1) := by decide +kernel
theorem dL_law_505 : decode cL_law 505 = .ok (.iadd, 1) := by decide +kernel
theorem dL_law_506 : decode cL_law 506 = .ok (.iaload, 1) := by decide +kernel
theorem dL_law_507 : decode cL_law 507 = .ok (.invokevirtual 61, 3) := by decide +kernel
theorem dL_law_510 : decode cL_law 510 = .ok (.aload_n 2, 1) := by decide +kernel
theorem dL_law_511 : decode cL_law 511 = .ok (.aload_n 0, 1) := by decide +kernel
theorem dL_law_512 : decode cL_law 512 = .ok (.iload_n 3, 1) := by decide +kernel
theorem dL_law_513 : decode cL_law 513 = .ok (.iconst 1, 1) := by decide +kernel
theorem dL_law_514 : decode cL_law 514 = .ok (.iadd, 1) := by decide +kernel
theorem dL_law_515 : decode cL_law 515 = .ok (.iaload, 1) := by decide +kernel
theorem dL_law_516 : decode cL_law 516 = .ok (.aload_n 0, 1) := by decide +kernel
theorem dL_law_517 : decode cL_law 517 = .ok (.iload_n 3, 1) := by decide +kernel
theorem dL_law_518 : decode cL_law 518 = .ok (.iconst 2, 1) := by decide +kernel
theorem dL_law_519 : decode cL_law 519 = .ok (.iadd, 1) := by decide +kernel
theorem dL_law_520 : decode cL_law 520 = .ok (.iaload, 1) := by decide +kernel
theorem dL_law_521 : decode cL_law 521 = .ok (.aload_n 0, 1) := by decide +kernel
theorem dL_law_522 : decode cL_law 522 = .ok (.iload_n 3, 1) := by decide +kernel
theorem dL_law_523 : decode cL_law 523 = .ok (.iconst 3, 1) := by decide +kernel
theorem dL_law_524 : decode cL_law 524 = .ok (.iadd, 1) := by decide +kernel
theorem dL_law_525 : decode cL_law 525 = .ok (.iaload, 1) := by decide +kernel
theorem dL_law_526 : decode cL_law 526 = .ok (.invokevirtual 64, 3) := by decide +kernel
theorem dL_law_529 : decode cL_law 529 = .ok (.if_icmp .eq 681, 3) := by decide +kernel
theorem dL_law_532 : decode cL_law 532 = .ok (.iconst 0, 1) := by decide +kernel
theorem dL_law_533 : decode cL_law 533 = .ok (.ireturn, 1) := by decide +kernel
theorem dL_law_534 : decode cL_law 534 = .ok (.aload_n 1, 1) := by decide +kernel
theorem dL_law_535 : decode cL_law 535 = .ok (.aload_n 0, 1) := by decide +kernel
theorem dL_law_536 : decode cL_law 536 = .ok (.iload_n 3, 1) := by decide +kernel
theorem dL_law_537 : decode cL_law 537 = .ok (.iconst 1, 1) := by decide +kernel
theorem dL_law_538 : decode cL_law 538 = .ok (.iadd, 1) := by decide +kernel
theorem dL_law_539 : decode cL_law 539 = .ok (.iaload, 1) := by decide +kernel
theorem dL_law_540 : decode cL_law 540 = .ok (.invokevirtual 65, 3) := by decide +kernel
theorem dL_law_543 : decode cL_law 543 = .ok (.aload_n 2, 1) := by decide +kernel
theorem dL_law_544 : decode cL_law 544 = .ok (.aload_n 0, 1) := by decide +kernel
theorem dL_law_545 : decode cL_law 545 = .ok (.iload_n 3, 1) := by decide +kernel
theorem dL_law_546 : decode cL_law 546 = .ok (.iconst 1, 1) := by decide +kernel
theorem dL_law_547 : decode cL_law 547 = .ok (.iadd, 1) := by decide +kernel
theorem dL_law_548 : decode cL_law 548 = .ok (.iaload, 1) := by decide +kernel
theorem dL_law_549 : decode cL_law 549 = .ok (.invokevirtual 68, 3) := by decide +kernel
theorem dL_law_552 : decode cL_law 552 = .ok (.if_icmp .eq 658, 3) := by decide +kernel
theorem dL_law_555 : decode cL_law 555 = .ok (.iconst 0, 1) := by decide +kernel
theorem dL_law_556 : decode cL_law 556 = .ok (.ireturn, 1) := by decide +kernel
theorem dL_law_557 : decode cL_law 557 = .ok (.aload_n 1, 1) := by decide +kernel
theorem dL_law_558 : decode cL_law 558 = .ok (.aload_n 0, 1) := by decide +kernel
theorem dL_law_559 : decode cL_law 559 = .ok (.iload_n 3, 1) := by decide +kernel
theorem dL_law_560 : decode cL_law 560 = .ok (.iconst 1, 1) := by decide +kernel
theorem dL_law_561 : decode cL_law 561 = .ok (.iadd, 1) := by decide +kernel
theorem dL_law_562 : decode cL_law 562 = .ok (.iaload, 1) := by decide +kernel
theorem dL_law_563 : decode cL_law 563 = .ok (.aload_n 0, 1) := by decide +kernel
theorem dL_law_564 : decode cL_law 564 = .ok (.iload_n 3, 1) := by decide +kernel
theorem dL_law_565 : decode cL_law 565 = .ok (.iconst 2, 1) := by decide +kernel
theorem dL_law_566 : decode cL_law 566 = .ok (.iadd, 1) := by decide +kernel
theorem dL_law_567 : decode cL_law 567 = .ok (.iaload, 1) := by decide +kernel
theorem dL_law_568 : decode cL_law 568 = .ok (.invokevirtual 69, 3) := by decide +kernel
theorem dL_law_571 : decode cL_law 571 = .ok (.aload_n 2, 1) := by decide +kernel
theorem dL_law_572 : decode cL_law 572 = .ok (.aload_n 0, 1) := by decide +kernel
theorem dL_law_573 : decode cL_law 573 = .ok (.iload_n 3, 1) := by decide +kernel
theorem dL_law_574 : decode cL_law 574 = .ok (.iconst 1, 1) := by decide +kernel
theorem dL_law_575 : decode cL_law 575 = .ok (.iadd, 1) := by decide +kernel
theorem dL_law_576 : decode cL_law 576 = .ok (.iaload, 1) := by decide +kernel
theorem dL_law_577 : decode cL_law 577 = .ok (.aload_n 0, 1) := by decide +kernel
theorem dL_law_578 : decode cL_law 578 = .ok (.iload_n 3, 1) := by decide +kernel
theorem dL_law_579 : decode cL_law 579 = .ok (.iconst 2, 1) := by decide +kernel
theorem dL_law_580 : decode cL_law 580 = .ok (.iadd, 1) := by decide +kernel
theorem dL_law_581 : decode cL_law 581 = .ok (.iaload, 1) := by decide +kernel
theorem dL_law_582 : decode cL_law 582 = .ok (.invokevirtual 72, 3) := by decide +kernel
theorem dL_law_585 : decode cL_law 585 = .ok (.if_icmp .eq 625, 3) := by decide +kernel
theorem dL_law_588 : decode cL_law 588 = .ok (.iconst 0, 1) := by decide +kernel
theorem dL_law_589 : decode cL_law 589 = .ok (.ireturn, 1) := by decide +kernel
theorem dL_law_590 : decode cL_law 590 = .ok (.aload_n 1, 1) := by decide +kernel
theorem dL_law_591 : decode cL_law 591 = .ok (.aload_n 0, 1) := by decide +kernel
theorem dL_law_592 : decode cL_law 592 = .ok (.iload_n 3, 1) := by decide +kernel
theorem dL_law_593 : decode cL_law 593 = .ok (.iconst 1, 1) := by decide +kernel
theorem dL_law_594 : decode cL_law 594 = .ok (.iadd, 1) := by decide +kernel
theorem dL_law_595 : decode cL_law 595 = .ok (.iaload, 1) := by decide +kernel
theorem dL_law_596 : decode cL_law 596 = .ok (.aload_n 0, 1) := by decide +kernel
theorem dL_law_597 : decode cL_law 597 = .ok (.iload_n 3, 1) := by decide +kernel
theorem dL_law_598 : decode cL_law 598 = .ok (.iconst 2, 1) := by decide +kernel
theorem dL_law_599 : decode cL_law 599 = .ok (.iadd, 1) := by decide +kernel
theorem dL_law_600 : decode cL_law 600 = .ok (.iaload, 1) := by decide +kernel
theorem dL_law_601 : decode cL_law 601 = .ok (.invokevirtual 73, 3) := by decide +kernel
theorem dL_law_604 : decode cL_law 604 = .ok (.aload_n 2, 1) := by decide +kernel
theorem dL_law_605 : decode cL_law 605 = .ok (.aload_n 0, 1) := by decide +kernel
theorem dL_law_606 : decode cL_law 606 = .ok (.iload_n 3, 1) := by decide +kernel
theorem dL_law_607 : decode cL_law 607 = .ok (.iconst 1, 1) := by decide +kernel
theorem dL_law_608 : decode cL_law 608 = .ok (.iadd, 1) := by decide +kernel
theorem dL_law_609 : decode cL_law 609 = .ok (.iaload, 1) := by decide +kernel
theorem dL_law_610 : decode cL_law 610 = .ok (.aload_n 0, 1) := by decide +kernel
theorem dL_law_611 : decode cL_law 611 = .ok (.iload_n 3, 1) := by decide +kernel
theorem dL_law_612 : decode cL_law 612 = .ok (.iconst 2, 1) := by decide +kernel
theorem dL_law_613 : decode cL_law 613 = .ok (.iadd, 1) := by decide +kernel
theorem dL_law_614 : decode cL_law 614 = .ok (.iaload, 1) := by decide +kernel
theorem dL_law_615 : decode cL_law 615 = .ok (.invokevirtual 76, 3) := by decide +kernel
theorem dL_law_618 : decode cL_law 618 = .ok (.if_icmp .eq 592, 3) := by decide +kernel
theorem dL_law_621 : decode cL_law 621 = .ok (.iconst 0, 1) := by decide +kernel
theorem dL_law_622 : decode cL_law 622 = .ok (.ireturn, 1) := by decide +kernel
theorem dL_law_623 : decode cL_law 623 = .ok (.aload_n 1, 1) := by decide +kernel
theorem dL_law_624 : decode cL_law 624 = .ok (.aload_n 0, 1) := by decide +kernel
theorem dL_law_625 : decode cL_law 625 = .ok (.iload_n 3, 1) := by decide +kernel
theorem dL_law_626 : decode cL_law 626 = .ok (.iconst 1, 1) := by decide +kernel
theorem dL_law_627 : decode cL_law 627 = .ok (.iadd, 1) := by decide +kernel
theorem dL_law_628 : decode cL_law 628 = .ok (.iaload, 1) := by decide +kernel
theorem dL_law_629 : decode cL_law 629 = .ok (.aload_n 0, 1) := by decide +kernel
theorem dL_law_630 : decode cL_law 630 = .ok (.iload_n 3, 1) := by decide +kernel
theorem dL_law_631 : decode cL_law 631 = .ok (.iconst 2, 1) := by decide +kernel
theorem dL_law_632 : decode cL_law 632 = .ok (.iadd, 1) := by decide +kernel
theorem dL_law_633 : decode cL_law 633 = .ok (.iaload, 1) := by decide +kernel
theorem dL_law_634 : decode cL_law 634 = .ok (.aload_n 0, 1) := by decide +kernel
theorem dL_law_635 : decode cL_law 635 = .ok (.iload_n 3, 1) := by decide +kernel
theorem dL_law_636 : decode cL_law 636 = .ok (.iconst 3, 1) := by decide +kernel
theorem dL_law_637 : decode cL_law 637 = .ok (.iadd, 1) := by decide +kernel
theorem dL_law_638 : decode cL_law 638 = .ok (.iaload, 1) := by decide +kernel
theorem dL_law_639 : decode cL_law 639 = .ok (.aload_n 0, 1) := by decide +kernel
theorem dL_law_640 : decode cL_law 640 = .ok (.iload_n 3, 1) := by decide +kernel
theorem dL_law_641 : decode cL_law 641 = .ok (.iconst 4, 1) := by decide +kernel
theorem dL_law_642 : decode cL_law 642 = .ok (.iadd, 1) := by decide +kernel
theorem dL_law_643 : decode cL_law 643 = .ok (.iaload, 1) := by decide +kernel
theorem dL_law_644 : decode cL_law 644 = .ok (.invokevirtual 77, 3) := by decide +kernel
theorem dL_law_647 : decode cL_law 647 = .ok (.aload_n 2, 1) := by decide +kernel
theorem dL_law_648 : decode cL_law 648 = .ok (.aload_n 0, 1) := by decide +kernel
theorem dL_law_649 : decode cL_law 649 = .ok (.iload_n 3, 1) := by decide +kernel
theorem dL_law_650 : decode cL_law 650 = .ok (.iconst 1, 1) := by decide +kernel
theorem dL_law_651 : decode cL_law 651 = .ok (.iadd, 1) := by decide +kernel
theorem dL_law_652 : decode cL_law 652 = .ok (.iaload, 1) := by decide +kernel
theorem dL_law_653 : decode cL_law 653 = .ok (.aload_n 0, 1) := by decide +kernel
theorem dL_law_654 : decode cL_law 654 = .ok (.iload_n 3, 1) := by decide +kernel
theorem dL_law_655 : decode cL_law 655 = .ok (.iconst 2, 1) := by decide +kernel
theorem dL_law_656 : decode cL_law 656 = .ok (.iadd, 1) := by decide +kernel
theorem dL_law_657 : decode cL_law 657 = .ok (.iaload, 1) := by decide +kernel
theorem dL_law_658 : decode cL_law 658 = .ok (.aload_n 0, 1) := by decide +kernel
theorem dL_law_659 : decode cL_law 659 = .ok (.iload_n 3, 1) := by decide +kernel
theorem dL_law_660 : decode cL_law 660 = .ok (.iconst 3, 1) := by decide +kernel
theorem dL_law_661 : decode cL_law 661 = .ok (.iadd, 1) := by decide +kernel
theorem dL_law_662 : decode cL_law 662 = .ok (.iaload, 1) := by decide +kernel
theorem dL_law_663 : decode cL_law 663 = .ok (.aload_n 0, 1) := by decide +kernel
theorem dL_law_664 : decode cL_law 664 = .ok (.iload_n 3, 1) := by decide +kernel
theorem dL_law_665 : decode cL_law 665 = .ok (.iconst 4, 1) := by decide +kernel
theorem dL_law_666 : decode cL_law 666 = .ok (.iadd, 1) := by decide +kernel
theorem dL_law_667 : decode cL_law 667 = .ok (.iaload, 1) := by decide +kernel
theorem dL_law_668 : decode cL_law 668 = .ok (.invokevirtual 81, 3) := by decide +kernel
theorem dL_law_671 : decode cL_law 671 = .ok (.if_icmp .eq 539, 3) := by decide +kernel
theorem dL_law_674 : decode cL_law 674 = .ok (.iconst 0, 1) := by decide +kernel
theorem dL_law_675 : decode cL_law 675 = .ok (.ireturn, 1) := by decide +kernel
theorem dL_law_676 : decode cL_law 676 = .ok (.aload_n 1, 1) := by decide +kernel
theorem dL_law_677 : decode cL_law 677 = .ok (.aload_n 0, 1) := by decide +kernel
theorem dL_law_678 : decode cL_law 678 = .ok (.iload_n 3, 1) := by decide +kernel
theorem dL_law_679 : decode cL_law 679 = .ok (.iconst 1, 1) := by decide +kernel
theorem dL_law_680 : decode cL_law 680 = .ok (.iadd, 1) := by decide +kernel
theorem dL_law_681 : decode cL_law 681 = .ok (.iaload, 1) := by decide +kernel
theorem dL_law_682 : decode cL_law 682 = .ok (.aload_n 0, 1) := by decide +kernel
theorem dL_law_683 : decode cL_law 683 = .ok (.iload_n 3, 1) := by decide +kernel
theorem dL_law_684 : decode cL_law 684 = .ok (.iconst 2, 1) := by decide +kernel
theorem dL_law_685 : decode cL_law 685 = .ok (.iadd, 1) := by decide +kernel
theorem dL_law_686 : decode cL_law 686 = .ok (.iaload, 1) := by decide +kernel
theorem dL_law_687 : decode cL_law 687 = .ok (.aload_n 0, 1) := by decide +kernel
theorem dL_law_688 : decode cL_law 688 = .ok (.iload_n 3, 1) := by decide +kernel
theorem dL_law_689 : decode cL_law 689 = .ok (.iconst 3, 1) := by decide +kernel
theorem dL_law_690 : decode cL_law 690 = .ok (.iadd, 1) := by decide +kernel
theorem dL_law_691 : decode cL_law 691 = .ok (.iaload, 1) := by decide +kernel
theorem dL_law_692 : decode cL_law 692 = .ok (.invokevirtual 82, 3) := by decide +kernel
theorem dL_law_695 : decode cL_law 695 = .ok (.aload_n 2, 1) := by decide +kernel
theorem dL_law_696 : decode cL_law 696 = .ok (.aload_n 0, 1) := by decide +kernel
theorem dL_law_697 : decode cL_law 697 = .ok (.iload_n 3, 1) := by decide +kernel
theorem dL_law_698 : decode cL_law 698 = .ok (.iconst 1, 1) := by decide +kernel
theorem dL_law_699 : decode cL_law 699 = .ok (.iadd, 1) := by decide +kernel
theorem dL_law_700 : decode cL_law 700 = .ok (.iaload, 1) := by decide +kernel
theorem dL_law_701 : decode cL_law 701 = .ok (.aload_n 0, 1) := by decide +kernel
theorem dL_law_702 : decode cL_law 702 = .ok (.iload_n 3, 1) := by decide +kernel
theorem dL_law_703 : decode cL_law 703 = .ok (.iconst 2, 1) := by decide +kernel
theorem dL_law_704 : decode cL_law 704 = .ok (.iadd, 1) := by decide +kernel
theorem dL_law_705 : decode cL_law 705 = .ok (.iaload, 1) := by decide +kernel
theorem dL_law_706 : decode cL_law 706 = .ok (.aload_n 0, 1) := by decide +kernel
theorem dL_law_707 : decode cL_law 707 = .ok (.iload_n 3, 1) := by decide +kernel
theorem dL_law_708 : decode cL_law 708 = .ok (.iconst 3, 1) := by decide +kernel
theorem dL_law_709 : decode cL_law 709 = .ok (.iadd, 1) := by decide +kernel
theorem dL_law_710 : decode cL_law 710 = .ok (.iaload, 1) := by decide +kernel
theorem dL_law_711 : decode cL_law 711 = .ok (.invokevirtual 85, 3) := by decide +kernel
theorem dL_law_714 : decode cL_law 714 = .ok (.if_icmp .eq 496, 3) := by decide +kernel
theorem dL_law_717 : decode cL_law 717 = .ok (.iconst 0, 1) := by decide +kernel
theorem dL_law_718 : decode cL_law 718 = .ok (.ireturn, 1) := by decide +kernel
theorem dL_law_719 : decode cL_law 719 = .ok (.aload_n 1, 1) := by decide +kernel
theorem dL_law_720 : decode cL_law 720 = .ok (.aload_n 0, 1) := by decide +kernel
theorem dL_law_721 : decode cL_law 721 = .ok (.iload_n 3, 1) := by decide +kernel
theorem dL_law_722 : decode cL_law 722 = .ok (.iconst 1, 1) := by decide +kernel
theorem dL_law_723 : decode cL_law 723 = .ok (.iadd, 1) := by decide +kernel
theorem dL_law_724 : decode cL_law 724 = .ok (.iaload, 1) := by decide +kernel
theorem dL_law_725 : decode cL_law 725 = .ok (.invokevirtual 86, 3) := by decide +kernel
theorem dL_law_728 : decode cL_law 728 = .ok (.aload_n 2, 1) := by decide +kernel
theorem dL_law_729 : decode cL_law 729 = .ok (.aload_n 0, 1) := by decide +kernel
theorem dL_law_730 : decode cL_law 730 = .ok (.iload_n 3, 1) := by decide +kernel
theorem dL_law_731 : decode cL_law 731 = .ok (.iconst 1, 1) := by decide +kernel
theorem dL_law_732 : decode cL_law 732 = .ok (.iadd, 1) := by decide +kernel
theorem dL_law_733 : decode cL_law 733 = .ok (.iaload, 1) := by decide +kernel
theorem dL_law_734 : decode cL_law 734 = .ok (.invokevirtual 90, 3) := by decide +kernel
theorem dL_law_737 : decode cL_law 737 = .ok (.lcmp, 1) := by decide +kernel
theorem dL_law_738 : decode cL_law 738 = .ok (.ifCond .eq 472, 3) := by decide +kernel
theorem dL_law_741 : decode cL_law 741 = .ok (.iconst 0, 1) := by decide +kernel
theorem dL_law_742 : decode cL_law 742 = .ok (.ireturn, 1) := by decide +kernel
theorem dL_law_743 : decode cL_law 743 = .ok (.aload_n 1, 1) := by decide +kernel
theorem dL_law_744 : decode cL_law 744 = .ok (.aload_n 0, 1) := by decide +kernel
theorem dL_law_745 : decode cL_law 745 = .ok (.iload_n 3, 1) := by decide +kernel
theorem dL_law_746 : decode cL_law 746 = .ok (.iconst 1, 1) := by decide +kernel
theorem dL_law_747 : decode cL_law 747 = .ok (.iadd, 1) := by decide +kernel
theorem dL_law_748 : decode cL_law 748 = .ok (.iaload, 1) := by decide +kernel
theorem dL_law_749 : decode cL_law 749 = .ok (.aload_n 0, 1) := by decide +kernel
theorem dL_law_750 : decode cL_law 750 = .ok (.iload_n 3, 1) := by decide +kernel
theorem dL_law_751 : decode cL_law 751 = .ok (.iconst 2, 1) := by decide +kernel
theorem dL_law_752 : decode cL_law 752 = .ok (.iadd, 1) := by decide +kernel
theorem dL_law_753 : decode cL_law 753 = .ok (.iaload, 1) := by decide +kernel
theorem dL_law_754 : decode cL_law 754 = .ok (.aload_n 0, 1) := by decide +kernel
theorem dL_law_755 : decode cL_law 755 = .ok (.iload_n 3, 1) := by decide +kernel
theorem dL_law_756 : decode cL_law 756 = .ok (.iconst 3, 1) := by decide +kernel
theorem dL_law_757 : decode cL_law 757 = .ok (.iadd, 1) := by decide +kernel
theorem dL_law_758 : decode cL_law 758 = .ok (.iaload, 1) := by decide +kernel
theorem dL_law_759 : decode cL_law 759 = .ok (.aload_n 0, 1) := by decide +kernel
theorem dL_law_760 : decode cL_law 760 = .ok (.iload_n 3, 1) := by decide +kernel
theorem dL_law_761 : decode cL_law 761 = .ok (.iconst 4, 1) := by decide +kernel
theorem dL_law_762 : decode cL_law 762 = .ok (.iadd, 1) := by decide +kernel
theorem dL_law_763 : decode cL_law 763 = .ok (.iaload, 1) := by decide +kernel
theorem dL_law_764 : decode cL_law 764 = .ok (.invokevirtual 91, 3) := by decide +kernel
theorem dL_law_767 : decode cL_law 767 = .ok (.aload_n 2, 1) := by decide +kernel
theorem dL_law_768 : decode cL_law 768 = .ok (.aload_n 0, 1) := by decide +kernel
theorem dL_law_769 : decode cL_law 769 = .ok (.iload_n 3, 1) := by decide +kernel
theorem dL_law_770 : decode cL_law 770 = .ok (.iconst 1, 1) := by decide +kernel
theorem dL_law_771 : decode cL_law 771 = .ok (.iadd, 1) := by decide +kernel
theorem dL_law_772 : decode cL_law 772 = .ok (.iaload, 1) := by decide +kernel
theorem dL_law_773 : decode cL_law 773 = .ok (.aload_n 0, 1) := by decide +kernel
theorem dL_law_774 : decode cL_law 774 = .ok (.iload_n 3, 1) := by decide +kernel
theorem dL_law_775 : decode cL_law 775 = .ok (.iconst 2, 1) := by decide +kernel
theorem dL_law_776 : decode cL_law 776 = .ok (.iadd, 1) := by decide +kernel
theorem dL_law_777 : decode cL_law 777 = .ok (.iaload, 1) := by decide +kernel
theorem dL_law_778 : decode cL_law 778 = .ok (.aload_n 0, 1) := by decide +kernel
theorem dL_law_779 : decode cL_law 779 = .ok (.iload_n 3, 1) := by decide +kernel
theorem dL_law_780 : decode cL_law 780 = .ok (.iconst 3, 1) := by decide +kernel
theorem dL_law_781 : decode cL_law 781 = .ok (.iadd, 1) := by decide +kernel
theorem dL_law_782 : decode cL_law 782 = .ok (.iaload, 1) := by decide +kernel
theorem dL_law_783 : decode cL_law 783 = .ok (.aload_n 0, 1) := by decide +kernel
theorem dL_law_784 : decode cL_law 784 = .ok (.iload_n 3, 1) := by decide +kernel
theorem dL_law_785 : decode cL_law 785 = .ok (.iconst 4, 1) := by decide +kernel
theorem dL_law_786 : decode cL_law 786 = .ok (.iadd, 1) := by decide +kernel
theorem dL_law_787 : decode cL_law 787 = .ok (.iaload, 1) := by decide +kernel
theorem dL_law_788 : decode cL_law 788 = .ok (.invokevirtual 94, 3) := by decide +kernel
theorem dL_law_791 : decode cL_law 791 = .ok (.if_icmp .eq 419, 3) := by decide +kernel
theorem dL_law_794 : decode cL_law 794 = .ok (.iconst 0, 1) := by decide +kernel
theorem dL_law_795 : decode cL_law 795 = .ok (.ireturn, 1) := by decide +kernel
theorem dL_law_796 : decode cL_law 796 = .ok (.aload_n 1, 1) := by decide +kernel
theorem dL_law_797 : decode cL_law 797 = .ok (.aload_n 0, 1) := by decide +kernel
theorem dL_law_798 : decode cL_law 798 = .ok (.iload_n 3, 1) := by decide +kernel
theorem dL_law_799 : decode cL_law 799 = .ok (.iconst 1, 1) := by decide +kernel
theorem dL_law_800 : decode cL_law 800 = .ok (.iadd, 1) := by decide +kernel
theorem dL_law_801 : decode cL_law 801 = .ok (.iaload, 1) := by decide +kernel
theorem dL_law_802 : decode cL_law 802 = .ok (.aload_n 0, 1) := by decide +kernel
theorem dL_law_803 : decode cL_law 803 = .ok (.iload_n 3, 1) := by decide +kernel
theorem dL_law_804 : decode cL_law 804 = .ok (.iconst 2, 1) := by decide +kernel
theorem dL_law_805 : decode cL_law 805 = .ok (.iadd, 1) := by decide +kernel
theorem dL_law_806 : decode cL_law 806 = .ok (.iaload, 1) := by decide +kernel
theorem dL_law_807 : decode cL_law 807 = .ok (.aload_n 0, 1) := by decide +kernel
theorem dL_law_808 : decode cL_law 808 = .ok (.iload_n 3, 1) := by decide +kernel
theorem dL_law_809 : decode cL_law 809 = .ok (.iconst 3, 1) := by decide +kernel
theorem dL_law_810 : decode cL_law 810 = .ok (.iadd, 1) := by decide +kernel
theorem dL_law_811 : decode cL_law 811 = .ok (.iaload, 1) := by decide +kernel
theorem dL_law_812 : decode cL_law 812 = .ok (.invokevirtual 95, 3) := by decide +kernel
theorem dL_law_815 : decode cL_law 815 = .ok (.aload_n 2, 1) := by decide +kernel
theorem dL_law_816 : decode cL_law 816 = .ok (.aload_n 0, 1) := by decide +kernel
theorem dL_law_817 : decode cL_law 817 = .ok (.iload_n 3, 1) := by decide +kernel
theorem dL_law_818 : decode cL_law 818 = .ok (.iconst 1, 1) := by decide +kernel
theorem dL_law_819 : decode cL_law 819 = .ok (.iadd, 1) := by decide +kernel
theorem dL_law_820 : decode cL_law 820 = .ok (.iaload, 1) := by decide +kernel
theorem dL_law_821 : decode cL_law 821 = .ok (.aload_n 0, 1) := by decide +kernel
theorem dL_law_822 : decode cL_law 822 = .ok (.iload_n 3, 1) := by decide +kernel
theorem dL_law_823 : decode cL_law 823 = .ok (.iconst 2, 1) := by decide +kernel
theorem dL_law_824 : decode cL_law 824 = .ok (.iadd, 1) := by decide +kernel
theorem dL_law_825 : decode cL_law 825 = .ok (.iaload, 1) := by decide +kernel
theorem dL_law_826 : decode cL_law 826 = .ok (.aload_n 0, 1) := by decide +kernel
theorem dL_law_827 : decode cL_law 827 = .ok (.iload_n 3, 1) := by decide +kernel
theorem dL_law_828 : decode cL_law 828 = .ok (.iconst 3, 1) := by decide +kernel
theorem dL_law_829 : decode cL_law 829 = .ok (.iadd, 1) := by decide +kernel
theorem dL_law_830 : decode cL_law 830 = .ok (.iaload, 1) := by decide +kernel
theorem dL_law_831 : decode cL_law 831 = .ok (.invokevirtual 98, 3) := by decide +kernel
theorem dL_law_834 : decode cL_law 834 = .ok (.if_icmp .eq 376, 3) := by decide +kernel
theorem dL_law_837 : decode cL_law 837 = .ok (.iconst 0, 1) := by decide +kernel
theorem dL_law_838 : decode cL_law 838 = .ok (.ireturn, 1) := by decide +kernel
theorem dL_law_839 : decode cL_law 839 = .ok (.aload_n 1, 1) := by decide +kernel
theorem dL_law_840 : decode cL_law 840 = .ok (.aload_n 0, 1) := by decide +kernel
theorem dL_law_841 : decode cL_law 841 = .ok (.iload_n 3, 1) := by decide +kernel
theorem dL_law_842 : decode cL_law 842 = .ok (.iconst 1, 1) := by decide +kernel
theorem dL_law_843 : decode cL_law 843 = .ok (.iadd, 1) := by decide +kernel
theorem dL_law_844 : decode cL_law 844 = .ok (.iaload, 1) := by decide +kernel
theorem dL_law_845 : decode cL_law 845 = .ok (.aload_n 0, 1) := by decide +kernel
theorem dL_law_846 : decode cL_law 846 = .ok (.iload_n 3, 1) := by decide +kernel
theorem dL_law_847 : decode cL_law 847 = .ok (.iconst 2, 1) := by decide +kernel
theorem dL_law_848 : decode cL_law 848 = .ok (.iadd, 1) := by decide +kernel
theorem dL_law_849 : decode cL_law 849 = .ok (.iaload, 1) := by decide +kernel
theorem dL_law_850 : decode cL_law 850 = .ok (.invokevirtual 99, 3) := by decide +kernel
theorem dL_law_853 : decode cL_law 853 = .ok (.aload_n 2, 1) := by decide +kernel
theorem dL_law_854 : decode cL_law 854 = .ok (.aload_n 0, 1) := by decide +kernel
theorem dL_law_855 : decode cL_law 855 = .ok (.iload_n 3, 1) := by decide +kernel
theorem dL_law_856 : decode cL_law 856 = .ok (.iconst 1, 1) := by decide +kernel
theorem dL_law_857 : decode cL_law 857 = .ok (.iadd, 1) := by decide +kernel
theorem dL_law_858 : decode cL_law 858 = .ok (.iaload, 1) := by decide +kernel
theorem dL_law_859 : decode cL_law 859 = .ok (.aload_n 0, 1) := by decide +kernel
theorem dL_law_860 : decode cL_law 860 = .ok (.iload_n 3, 1) := by decide +kernel
theorem dL_law_861 : decode cL_law 861 = .ok (.iconst 2, 1) := by decide +kernel
theorem dL_law_862 : decode cL_law 862 = .ok (.iadd, 1) := by decide +kernel
theorem dL_law_863 : decode cL_law 863 = .ok (.iaload, 1) := by decide +kernel
theorem dL_law_864 : decode cL_law 864 = .ok (.invokevirtual 102, 3) := by decide +kernel
theorem dL_law_867 : decode cL_law 867 = .ok (.if_icmp .eq 343, 3) := by decide +kernel
theorem dL_law_870 : decode cL_law 870 = .ok (.iconst 0, 1) := by decide +kernel
theorem dL_law_871 : decode cL_law 871 = .ok (.ireturn, 1) := by decide +kernel
theorem dL_law_872 : decode cL_law 872 = .ok (.aload_n 1, 1) := by decide +kernel
theorem dL_law_873 : decode cL_law 873 = .ok (.aload_n 0, 1) := by decide +kernel
theorem dL_law_874 : decode cL_law 874 = .ok (.iload_n 3, 1) := by decide +kernel
theorem dL_law_875 : decode cL_law 875 = .ok (.iconst 1, 1) := by decide +kernel
theorem dL_law_876 : decode cL_law 876 = .ok (.iadd, 1) := by decide +kernel
theorem dL_law_877 : decode cL_law 877 = .ok (.iaload, 1) := by decide +kernel
theorem dL_law_878 : decode cL_law 878 = .ok (.aload_n 0, 1) := by decide +kernel
theorem dL_law_879 : decode cL_law 879 = .ok (.iload_n 3, 1) := by decide +kernel
theorem dL_law_880 : decode cL_law 880 = .ok (.iconst 2, 1) := by decide +kernel
theorem dL_law_881 : decode cL_law 881 = .ok (.iadd, 1) := by decide +kernel
theorem dL_law_882 : decode cL_law 882 = .ok (.iaload, 1) := by decide +kernel
theorem dL_law_883 : decode cL_law 883 = .ok (.aload_n 0, 1) := by decide +kernel
theorem dL_law_884 : decode cL_law 884 = .ok (.iload_n 3, 1) := by decide +kernel
theorem dL_law_885 : decode cL_law 885 = .ok (.iconst 3, 1) := by decide +kernel
theorem dL_law_886 : decode cL_law 886 = .ok (.iadd, 1) := by decide +kernel
theorem dL_law_887 : decode cL_law 887 = .ok (.iaload, 1) := by decide +kernel
theorem dL_law_888 : decode cL_law 888 = .ok (.aload_n 0, 1) := by decide +kernel
theorem dL_law_889 : decode cL_law 889 = .ok (.iload_n 3, 1) := by decide +kernel
theorem dL_law_890 : decode cL_law 890 = .ok (.iconst 4, 1) := by decide +kernel
theorem dL_law_891 : decode cL_law 891 = .ok (.iadd, 1) := by decide +kernel
theorem dL_law_892 : decode cL_law 892 = .ok (.iaload, 1) := by decide +kernel
theorem dL_law_893 : decode cL_law 893 = .ok (.invokevirtual 103, 3) := by decide +kernel
theorem dL_law_896 : decode cL_law 896 = .ok (.aload_n 2, 1) := by decide +kernel
theorem dL_law_897 : decode cL_law 897 = .ok (.aload_n 0, 1) := by decide +kernel
theorem dL_law_898 : decode cL_law 898 = .ok (.iload_n 3, 1) := by decide +kernel
theorem dL_law_899 : decode cL_law 899 = .ok (.iconst 1, 1) := by decide +kernel
theorem dL_law_900 : decode cL_law 900 = .ok (.iadd, 1) := by decide +kernel
theorem dL_law_901 : decode cL_law 901 = .ok (.iaload, 1) := by decide +kernel
theorem dL_law_902 : decode cL_law 902 = .ok (.aload_n 0, 1) := by decide +kernel
theorem dL_law_903 : decode cL_law 903 = .ok (.iload_n 3, 1) := by decide +kernel
theorem dL_law_904 : decode cL_law 904 = .ok (.iconst 2, 1) := by decide +kernel
theorem dL_law_905 : decode cL_law 905 = .ok (.iadd, 1) := by decide +kernel
theorem dL_law_906 : decode cL_law 906 = .ok (.iaload, 1) := by decide +kernel
theorem dL_law_907 : decode cL_law 907 = .ok (.aload_n 0, 1) := by decide +kernel
theorem dL_law_908 : decode cL_law 908 = .ok (.iload_n 3, 1) := by decide +kernel
theorem dL_law_909 : decode cL_law 909 = .ok (.iconst 3, 1) := by decide +kernel
theorem dL_law_910 : decode cL_law 910 = .ok (.iadd, 1) := by decide +kernel
theorem dL_law_911 : decode cL_law 911 = .ok (.iaload, 1) := by decide +kernel
theorem dL_law_912 : decode cL_law 912 = .ok (.aload_n 0, 1) := by decide +kernel
theorem dL_law_913 : decode cL_law 913 = .ok (.iload_n 3, 1) := by decide +kernel
theorem dL_law_914 : decode cL_law 914 = .ok (.iconst 4, 1) := by decide +kernel
theorem dL_law_915 : decode cL_law 915 = .ok (.iadd, 1) := by decide +kernel
theorem dL_law_916 : decode cL_law 916 = .ok (.iaload, 1) := by decide +kernel
theorem dL_law_917 : decode cL_law 917 = .ok (.invokevirtual 107, 3) := by decide +kernel
theorem dL_law_920 : decode cL_law 920 = .ok (.lcmp, 1) := by decide +kernel
theorem dL_law_921 : decode cL_law 921 = .ok (.ifCond .eq 289, 3) := by decide +kernel
theorem dL_law_924 : decode cL_law 924 = .ok (.iconst 0, 1) := by decide +kernel
theorem dL_law_925 : decode cL_law 925 = .ok (.ireturn, 1) := by decide +kernel
theorem dL_law_926 : decode cL_law 926 = .ok (.aload_n 1, 1) := by decide +kernel
theorem dL_law_927 : decode cL_law 927 = .ok (.invokevirtual 108, 3) := by decide +kernel
theorem dL_law_930 : decode cL_law 930 = .ok (.aload_n 2, 1) := by decide +kernel
theorem dL_law_931 : decode cL_law 931 = .ok (.invokevirtual 111, 3) := by decide +kernel
theorem dL_law_934 : decode cL_law 934 = .ok (.if_icmp .eq 276, 3) := by decide +kernel
theorem dL_law_937 : decode cL_law 937 = .ok (.iconst 0, 1) := by decide +kernel
theorem dL_law_938 : decode cL_law 938 = .ok (.ireturn, 1) := by decide +kernel
theorem dL_law_939 : decode cL_law 939 = .ok (.aload_n 1, 1) := by decide +kernel
theorem dL_law_940 : decode cL_law 940 = .ok (.invokevirtual 112, 3) := by decide +kernel
theorem dL_law_943 : decode cL_law 943 = .ok (.aload_n 2, 1) := by decide +kernel
theorem dL_law_944 : decode cL_law 944 = .ok (.invokevirtual 115, 3) := by decide +kernel
theorem dL_law_947 : decode cL_law 947 = .ok (.if_icmp .eq 263, 3) := by decide +kernel
theorem dL_law_950 : decode cL_law 950 = .ok (.iconst 0, 1) := by decide +kernel
theorem dL_law_951 : decode cL_law 951 = .ok (.ireturn, 1) := by decide +kernel
theorem dL_law_952 : decode cL_law 952 = .ok (.aload_n 1, 1) := by decide +kernel
theorem dL_law_953 : decode cL_law 953 = .ok (.aload_n 0, 1) := by decide +kernel
theorem dL_law_954 : decode cL_law 954 = .ok (.iload_n 3, 1) := by decide +kernel
theorem dL_law_955 : decode cL_law 955 = .ok (.iconst 1, 1) := by decide +kernel
theorem dL_law_956 : decode cL_law 956 = .ok (.iadd, 1) := by decide +kernel
theorem dL_law_957 : decode cL_law 957 = .ok (.iaload, 1) := by decide +kernel
theorem dL_law_958 : decode cL_law 958 = .ok (.invokevirtual 116, 3) := by decide +kernel
theorem dL_law_961 : decode cL_law 961 = .ok (.aload_n 2, 1) := by decide +kernel
theorem dL_law_962 : decode cL_law 962 = .ok (.aload_n 0, 1) := by decide +kernel
theorem dL_law_963 : decode cL_law 963 = .ok (.iload_n 3, 1) := by decide +kernel
theorem dL_law_964 : decode cL_law 964 = .ok (.iconst 1, 1) := by decide +kernel
theorem dL_law_965 : decode cL_law 965 = .ok (.iadd, 1) := by decide +kernel
theorem dL_law_966 : decode cL_law 966 = .ok (.iaload, 1) := by decide +kernel
theorem dL_law_967 : decode cL_law 967 = .ok (.invokevirtual 119, 3) := by decide +kernel
theorem dL_law_970 : decode cL_law 970 = .ok (.if_icmp .eq 240, 3) := by decide +kernel
theorem dL_law_973 : decode cL_law 973 = .ok (.iconst 0, 1) := by decide +kernel
theorem dL_law_974 : decode cL_law 974 = .ok (.ireturn, 1) := by decide +kernel
theorem dL_law_975 : decode cL_law 975 = .ok (.aload_n 1, 1) := by decide +kernel
theorem dL_law_976 : decode cL_law 976 = .ok (.aload_n 0, 1) := by decide +kernel
theorem dL_law_977 : decode cL_law 977 = .ok (.iload_n 3, 1) := by decide +kernel
theorem dL_law_978 : decode cL_law 978 = .ok (.iconst 1, 1) := by decide +kernel
theorem dL_law_979 : decode cL_law 979 = .ok (.iadd, 1) := by decide +kernel
theorem dL_law_980 : decode cL_law 980 = .ok (.iaload, 1) := by decide +kernel
theorem dL_law_981 : decode cL_law 981 = .ok (.aload_n 0, 1) := by decide +kernel
theorem dL_law_982 : decode cL_law 982 = .ok (.iload_n 3, 1) := by decide +kernel
theorem dL_law_983 : decode cL_law 983 = .ok (.iconst 2, 1) := by decide +kernel
theorem dL_law_984 : decode cL_law 984 = .ok (.iadd, 1) := by decide +kernel
theorem dL_law_985 : decode cL_law 985 = .ok (.iaload, 1) := by decide +kernel
theorem dL_law_986 : decode cL_law 986 = .ok (.aload_n 0, 1) := by decide +kernel
theorem dL_law_987 : decode cL_law 987 = .ok (.iload_n 3, 1) := by decide +kernel
theorem dL_law_988 : decode cL_law 988 = .ok (.iconst 3, 1) := by decide +kernel
theorem dL_law_989 : decode cL_law 989 = .ok (.iadd, 1) := by decide +kernel
theorem dL_law_990 : decode cL_law 990 = .ok (.iaload, 1) := by decide +kernel
theorem dL_law_991 : decode cL_law 991 = .ok (.invokevirtual 120, 3) := by decide +kernel
theorem dL_law_994 : decode cL_law 994 = .ok (.aload_n 2, 1) := by decide +kernel
theorem dL_law_995 : decode cL_law 995 = .ok (.aload_n 0, 1) := by decide +kernel
theorem dL_law_996 : decode cL_law 996 = .ok (.iload_n 3, 1) := by decide +kernel
theorem dL_law_997 : decode cL_law 997 = .ok (.iconst 1, 1) := by decide +kernel
theorem dL_law_998 : decode cL_law 998 = .ok (.iadd, 1) := by decide +kernel
theorem dL_law_999 : decode cL_law 999 = .ok (.iaload, 1) := by decide +kernel
theorem dL_law_1000 : decode cL_law 1000 = .ok (.aload_n 0, 1) := by decide +kernel
theorem dL_law_1001 : decode cL_law 1001 = .ok (.iload_n 3, 1) := by decide +kernel
theorem dL_law_1002 : decode cL_law 1002 = .ok (.iconst 2, 1) := by decide +kernel
theorem dL_law_1003 : decode cL_law 1003 = .ok (.iadd, 1) := by decide +kernel
theorem dL_law_1004 : decode cL_law 1004 = .ok (.iaload, 1) := by decide +kernel
theorem dL_law_1005 : decode cL_law 1005 = .ok (.aload_n 0, 1) := by decide +kernel
theorem dL_law_1006 : decode cL_law 1006 = .ok (.iload_n 3, 1) := by decide +kernel
theorem dL_law_1007 : decode cL_law 1007 = .ok (.iconst 3, 1) := by decide +kernel
theorem dL_law_1008 : decode cL_law 1008 = .ok (.iadd, 1) := by decide +kernel
theorem dL_law_1009 : decode cL_law 1009 = .ok (.iaload, 1) := by decide +kernel
theorem dL_law_1010 : decode cL_law 1010 = .ok (.invokevirtual 123, 3) := by decide +kernel
theorem dL_law_1013 : decode cL_law 1013 = .ok (.if_icmp .eq 197, 3) := by decide +kernel
theorem dL_law_1016 : decode cL_law 1016 = .ok (.iconst 0, 1) := by decide +kernel
theorem dL_law_1017 : decode cL_law 1017 = .ok (.ireturn, 1) := by decide +kernel
theorem dL_law_1018 : decode cL_law 1018 = .ok (.aload_n 1, 1) := by decide +kernel
theorem dL_law_1019 : decode cL_law 1019 = .ok (.aload_n 0, 1) := by decide +kernel
theorem dL_law_1020 : decode cL_law 1020 = .ok (.iload_n 3, 1) := by decide +kernel
theorem dL_law_1021 : decode cL_law 1021 = .ok (.iconst 1, 1) := by decide +kernel
theorem dL_law_1022 : decode cL_law 1022 = .ok (.iadd, 1) := by decide +kernel
theorem dL_law_1023 : decode cL_law 1023 = .ok (.iaload, 1) := by decide +kernel
theorem dL_law_1024 : decode cL_law 1024 = .ok (.aload_n 0, 1) := by decide +kernel
theorem dL_law_1025 : decode cL_law 1025 = .ok (.iload_n 3, 1) := by decide +kernel
theorem dL_law_1026 : decode cL_law 1026 = .ok (.iconst 2, 1) := by decide +kernel
theorem dL_law_1027 : decode cL_law 1027 = .ok (.iadd, 1) := by decide +kernel
theorem dL_law_1028 : decode cL_law 1028 = .ok (.iaload, 1) := by decide +kernel
theorem dL_law_1029 : decode cL_law 1029 = .ok (.aload_n 0, 1) := by decide +kernel
theorem dL_law_1030 : decode cL_law 1030 = .ok (.iload_n 3, 1) := by decide +kernel
theorem dL_law_1031 : decode cL_law 1031 = .ok (.iconst 3, 1) := by decide +kernel
theorem dL_law_1032 : decode cL_law 1032 = .ok (.iadd, 1) := by decide +kernel
theorem dL_law_1033 : decode cL_law 1033 = .ok (.iaload, 1) := by decide +kernel
theorem dL_law_1034 : decode cL_law 1034 = .ok (.invokevirtual 124, 3) := by decide +kernel
theorem dL_law_1037 : decode cL_law 1037 = .ok (.aload_n 2, 1) := by decide +kernel
theorem dL_law_1038 : decode cL_law 1038 = .ok (.aload_n 0, 1) := by decide +kernel
theorem dL_law_1039 : decode cL_law 1039 = .ok (.iload_n 3, 1) := by decide +kernel
theorem dL_law_1040 : decode cL_law 1040 = .ok (.iconst 1, 1) := by decide +kernel
theorem dL_law_1041 : decode cL_law 1041 = .ok (.iadd, 1) := by decide +kernel
theorem dL_law_1042 : decode cL_law 1042 = .ok (.iaload, 1) := by decide +kernel
theorem dL_law_1043 : decode cL_law 1043 = .ok (.aload_n 0, 1) := by decide +kernel
theorem dL_law_1044 : decode cL_law 1044 = .ok (.iload_n 3, 1) := by decide +kernel
theorem dL_law_1045 : decode cL_law 1045 = .ok (.iconst 2, 1) := by decide +kernel
theorem dL_law_1046 : decode cL_law 1046 = .ok (.iadd, 1) := by decide +kernel
theorem dL_law_1047 : decode cL_law 1047 = .ok (.iaload, 1) := by decide +kernel
theorem dL_law_1048 : decode cL_law 1048 = .ok (.aload_n 0, 1) := by decide +kernel
theorem dL_law_1049 : decode cL_law 1049 = .ok (.iload_n 3, 1) := by decide +kernel
theorem dL_law_1050 : decode cL_law 1050 = .ok (.iconst 3, 1) := by decide +kernel
theorem dL_law_1051 : decode cL_law 1051 = .ok (.iadd, 1) := by decide +kernel
theorem dL_law_1052 : decode cL_law 1052 = .ok (.iaload, 1) := by decide +kernel
theorem dL_law_1053 : decode cL_law 1053 = .ok (.invokevirtual 127, 3) := by decide +kernel
theorem dL_law_1056 : decode cL_law 1056 = .ok (.if_icmp .eq 154, 3) := by decide +kernel
theorem dL_law_1059 : decode cL_law 1059 = .ok (.iconst 0, 1) := by decide +kernel
theorem dL_law_1060 : decode cL_law 1060 = .ok (.ireturn, 1) := by decide +kernel
theorem dL_law_1061 : decode cL_law 1061 = .ok (.aload_n 1, 1) := by decide +kernel
theorem dL_law_1062 : decode cL_law 1062 = .ok (.aload_n 0, 1) := by decide +kernel
theorem dL_law_1063 : decode cL_law 1063 = .ok (.iload_n 3, 1) := by decide +kernel
theorem dL_law_1064 : decode cL_law 1064 = .ok (.iconst 1, 1) := by decide +kernel
theorem dL_law_1065 : decode cL_law 1065 = .ok (.iadd, 1) := by decide +kernel
theorem dL_law_1066 : decode cL_law 1066 = .ok (.iaload, 1) := by decide +kernel
theorem dL_law_1067 : decode cL_law 1067 = .ok (.aload_n 0, 1) := by decide +kernel
theorem dL_law_1068 : decode cL_law 1068 = .ok (.iload_n 3, 1) := by decide +kernel
theorem dL_law_1069 : decode cL_law 1069 = .ok (.iconst 2, 1) := by decide +kernel
theorem dL_law_1070 : decode cL_law 1070 = .ok (.iadd, 1) := by decide +kernel
theorem dL_law_1071 : decode cL_law 1071 = .ok (.iaload, 1) := by decide +kernel
theorem dL_law_1072 : decode cL_law 1072 = .ok (.aload_n 0, 1) := by decide +kernel
theorem dL_law_1073 : decode cL_law 1073 = .ok (.iload_n 3, 1) := by decide +kernel
theorem dL_law_1074 : decode cL_law 1074 = .ok (.iconst 3, 1) := by decide +kernel
theorem dL_law_1075 : decode cL_law 1075 = .ok (.iadd, 1) := by decide +kernel
theorem dL_law_1076 : decode cL_law 1076 = .ok (.iaload, 1) := by decide +kernel
theorem dL_law_1077 : decode cL_law 1077 = .ok (.aload_n 0, 1) := by decide +kernel
theorem dL_law_1078 : decode cL_law 1078 = .ok (.iload_n 3, 1) := by decide +kernel
theorem dL_law_1079 : decode cL_law 1079 = .ok (.iconst 4, 1) := by decide +kernel
theorem dL_law_1080 : decode cL_law 1080 = .ok (.iadd, 1) := by decide +kernel
theorem dL_law_1081 : decode cL_law 1081 = .ok (.iaload, 1) := by decide +kernel
theorem dL_law_1082 : decode cL_law 1082 = .ok (.aload_n 0, 1) := by decide +kernel
theorem dL_law_1083 : decode cL_law 1083 = .ok (.iload_n 3, 1) := by decide +kernel
theorem dL_law_1084 : decode cL_law 1084 = .ok (.iconst 5, 1) := by decide +kernel
theorem dL_law_1085 : decode cL_law 1085 = .ok (.iadd, 1) := by decide +kernel
theorem dL_law_1086 : decode cL_law 1086 = .ok (.iaload, 1) := by decide +kernel
theorem dL_law_1087 : decode cL_law 1087 = .ok (.invokevirtual 128, 3) := by decide +kernel
theorem dL_law_1090 : decode cL_law 1090 = .ok (.aload_n 2, 1) := by decide +kernel
theorem dL_law_1091 : decode cL_law 1091 = .ok (.aload_n 0, 1) := by decide +kernel
theorem dL_law_1092 : decode cL_law 1092 = .ok (.iload_n 3, 1) := by decide +kernel
theorem dL_law_1093 : decode cL_law 1093 = .ok (.iconst 1, 1) := by decide +kernel
theorem dL_law_1094 : decode cL_law 1094 = .ok (.iadd, 1) := by decide +kernel
theorem dL_law_1095 : decode cL_law 1095 = .ok (.iaload, 1) := by decide +kernel
theorem dL_law_1096 : decode cL_law 1096 = .ok (.aload_n 0, 1) := by decide +kernel
theorem dL_law_1097 : decode cL_law 1097 = .ok (.iload_n 3, 1) := by decide +kernel
theorem dL_law_1098 : decode cL_law 1098 = .ok (.iconst 2, 1) := by decide +kernel
theorem dL_law_1099 : decode cL_law 1099 = .ok (.iadd, 1) := by decide +kernel
theorem dL_law_1100 : decode cL_law 1100 = .ok (.iaload, 1) := by decide +kernel
theorem dL_law_1101 : decode cL_law 1101 = .ok (.aload_n 0, 1) := by decide +kernel
theorem dL_law_1102 : decode cL_law 1102 = .ok (.iload_n 3, 1) := by decide +kernel
theorem dL_law_1103 : decode cL_law 1103 = .ok (.iconst 3, 1) := by decide +kernel
theorem dL_law_1104 : decode cL_law 1104 = .ok (.iadd, 1) := by decide +kernel
theorem dL_law_1105 : decode cL_law 1105 = .ok (.iaload, 1) := by decide +kernel
theorem dL_law_1106 : decode cL_law 1106 = .ok (.aload_n 0, 1) := by decide +kernel
theorem dL_law_1107 : decode cL_law 1107 = .ok (.iload_n 3, 1) := by decide +kernel
theorem dL_law_1108 : decode cL_law 1108 = .ok (.iconst 4, 1) := by decide +kernel
theorem dL_law_1109 : decode cL_law 1109 = .ok (.iadd, 1) := by decide +kernel
theorem dL_law_1110 : decode cL_law 1110 = .ok (.iaload, 1) := by decide +kernel
theorem dL_law_1111 : decode cL_law 1111 = .ok (.aload_n 0, 1) := by decide +kernel
theorem dL_law_1112 : decode cL_law 1112 = .ok (.iload_n 3, 1) := by decide +kernel
theorem dL_law_1113 : decode cL_law 1113 = .ok (.iconst 5, 1) := by decide +kernel
theorem dL_law_1114 : decode cL_law 1114 = .ok (.iadd, 1) := by decide +kernel
theorem dL_law_1115 : decode cL_law 1115 = .ok (.iaload, 1) := by decide +kernel
theorem dL_law_1116 : decode cL_law 1116 = .ok (.invokevirtual 132, 3) := by decide +kernel
theorem dL_law_1119 : decode cL_law 1119 = .ok (.if_icmp .eq 91, 3) := by decide +kernel
theorem dL_law_1122 : decode cL_law 1122 = .ok (.iconst 0, 1) := by decide +kernel
theorem dL_law_1123 : decode cL_law 1123 = .ok (.ireturn, 1) := by decide +kernel
theorem dL_law_1124 : decode cL_law 1124 = .ok (.aload_n 1, 1) := by decide +kernel
theorem dL_law_1125 : decode cL_law 1125 = .ok (.aload_n 0, 1) := by decide +kernel
theorem dL_law_1126 : decode cL_law 1126 = .ok (.iload_n 3, 1) := by decide +kernel
theorem dL_law_1127 : decode cL_law 1127 = .ok (.iconst 1, 1) := by decide +kernel
theorem dL_law_1128 : decode cL_law 1128 = .ok (.iadd, 1) := by decide +kernel
theorem dL_law_1129 : decode cL_law 1129 = .ok (.iaload, 1) := by decide +kernel
theorem dL_law_1130 : decode cL_law 1130 = .ok (.aload_n 0, 1) := by decide +kernel
theorem dL_law_1131 : decode cL_law 1131 = .ok (.iload_n 3, 1) := by decide +kernel
theorem dL_law_1132 : decode cL_law 1132 = .ok (.iconst 2, 1) := by decide +kernel
theorem dL_law_1133 : decode cL_law 1133 = .ok (.iadd, 1) := by decide +kernel
theorem dL_law_1134 : decode cL_law 1134 = .ok (.iaload, 1) := by decide +kernel
theorem dL_law_1135 : decode cL_law 1135 = .ok (.aload_n 0, 1) := by decide +kernel
theorem dL_law_1136 : decode cL_law 1136 = .ok (.iload_n 3, 1) := by decide +kernel
theorem dL_law_1137 : decode cL_law 1137 = .ok (.iconst 3, 1) := by decide +kernel
theorem dL_law_1138 : decode cL_law 1138 = .ok (.iadd, 1) := by decide +kernel
theorem dL_law_1139 : decode cL_law 1139 = .ok (.iaload, 1) := by decide +kernel
theorem dL_law_1140 : decode cL_law 1140 = .ok (.aload_n 0, 1) := by decide +kernel
theorem dL_law_1141 : decode cL_law 1141 = .ok (.iload_n 3, 1) := by decide +kernel
theorem dL_law_1142 : decode cL_law 1142 = .ok (.iconst 4, 1) := by decide +kernel
theorem dL_law_1143 : decode cL_law 1143 = .ok (.iadd, 1) := by decide +kernel
theorem dL_law_1144 : decode cL_law 1144 = .ok (.iaload, 1) := by decide +kernel
theorem dL_law_1145 : decode cL_law 1145 = .ok (.invokevirtual 133, 3) := by decide +kernel
theorem dL_law_1148 : decode cL_law 1148 = .ok (.aload_n 2, 1) := by decide +kernel
theorem dL_law_1149 : decode cL_law 1149 = .ok (.aload_n 0, 1) := by decide +kernel
theorem dL_law_1150 : decode cL_law 1150 = .ok (.iload_n 3, 1) := by decide +kernel
theorem dL_law_1151 : decode cL_law 1151 = .ok (.iconst 1, 1) := by decide +kernel
theorem dL_law_1152 : decode cL_law 1152 = .ok (.iadd, 1) := by decide +kernel
theorem dL_law_1153 : decode cL_law 1153 = .ok (.iaload, 1) := by decide +kernel
theorem dL_law_1154 : decode cL_law 1154 = .ok (.aload_n 0, 1) := by decide +kernel
theorem dL_law_1155 : decode cL_law 1155 = .ok (.iload_n 3, 1) := by decide +kernel
theorem dL_law_1156 : decode cL_law 1156 = .ok (.iconst 2, 1) := by decide +kernel
theorem dL_law_1157 : decode cL_law 1157 = .ok (.iadd, 1) := by decide +kernel
theorem dL_law_1158 : decode cL_law 1158 = .ok (.iaload, 1) := by decide +kernel
theorem dL_law_1159 : decode cL_law 1159 = .ok (.aload_n 0, 1) := by decide +kernel
theorem dL_law_1160 : decode cL_law 1160 = .ok (.iload_n 3, 1) := by decide +kernel
theorem dL_law_1161 : decode cL_law 1161 = .ok (.iconst 3, 1) := by decide +kernel
theorem dL_law_1162 : decode cL_law 1162 = .ok (.iadd, 1) := by decide +kernel
theorem dL_law_1163 : decode cL_law 1163 = .ok (.iaload, 1) := by decide +kernel
theorem dL_law_1164 : decode cL_law 1164 = .ok (.aload_n 0, 1) := by decide +kernel
theorem dL_law_1165 : decode cL_law 1165 = .ok (.iload_n 3, 1) := by decide +kernel
theorem dL_law_1166 : decode cL_law 1166 = .ok (.iconst 4, 1) := by decide +kernel
theorem dL_law_1167 : decode cL_law 1167 = .ok (.iadd, 1) := by decide +kernel
theorem dL_law_1168 : decode cL_law 1168 = .ok (.iaload, 1) := by decide +kernel
theorem dL_law_1169 : decode cL_law 1169 = .ok (.invokevirtual 136, 3) := by decide +kernel
theorem dL_law_1172 : decode cL_law 1172 = .ok (.if_icmp .eq 38, 3) := by decide +kernel
theorem dL_law_1175 : decode cL_law 1175 = .ok (.iconst 0, 1) := by decide +kernel
theorem dL_law_1176 : decode cL_law 1176 = .ok (.ireturn, 1) := by decide +kernel
theorem dL_law_1177 : decode cL_law 1177 = .ok (.aload_n 1, 1) := by decide +kernel
theorem dL_law_1178 : decode cL_law 1178 = .ok (.aload_n 0, 1) := by decide +kernel
theorem dL_law_1179 : decode cL_law 1179 = .ok (.iload_n 3, 1) := by decide +kernel
theorem dL_law_1180 : decode cL_law 1180 = .ok (.iconst 1, 1) := by decide +kernel
theorem dL_law_1181 : decode cL_law 1181 = .ok (.iadd, 1) := by decide +kernel
theorem dL_law_1182 : decode cL_law 1182 = .ok (.iaload, 1) := by decide +kernel
theorem dL_law_1183 : decode cL_law 1183 = .ok (.aload_n 0, 1) := by decide +kernel
theorem dL_law_1184 : decode cL_law 1184 = .ok (.iload_n 3, 1) := by decide +kernel
theorem dL_law_1185 : decode cL_law 1185 = .ok (.iconst 2, 1) := by decide +kernel
theorem dL_law_1186 : decode cL_law 1186 = .ok (.iadd, 1) := by decide +kernel
theorem dL_law_1187 : decode cL_law 1187 = .ok (.iaload, 1) := by decide +kernel
theorem dL_law_1188 : decode cL_law 1188 = .ok (.invokevirtual 137, 3) := by decide +kernel
theorem dL_law_1191 : decode cL_law 1191 = .ok (.aload_n 2, 1) := by decide +kernel
theorem dL_law_1192 : decode cL_law 1192 = .ok (.aload_n 0, 1) := by decide +kernel
theorem dL_law_1193 : decode cL_law 1193 = .ok (.iload_n 3, 1) := by decide +kernel
theorem dL_law_1194 : decode cL_law 1194 = .ok (.iconst 1, 1) := by decide +kernel
theorem dL_law_1195 : decode cL_law 1195 = .ok (.iadd, 1) := by decide +kernel
theorem dL_law_1196 : decode cL_law 1196 = .ok (.iaload, 1) := by decide +kernel
theorem dL_law_1197 : decode cL_law 1197 = .ok (.aload_n 0, 1) := by decide +kernel
theorem dL_law_1198 : decode cL_law 1198 = .ok (.iload_n 3, 1) := by decide +kernel
theorem dL_law_1199 : decode cL_law 1199 = .ok (.iconst 2, 1) := by decide +kernel
theorem dL_law_1200 : decode cL_law 1200 = .ok (.iadd, 1) := by decide +kernel
theorem dL_law_1201 : decode cL_law 1201 = .ok (.iaload, 1) := by decide +kernel
theorem dL_law_1202 : decode cL_law 1202 = .ok (.invokevirtual 140, 3) := by decide +kernel
theorem dL_law_1205 : decode cL_law 1205 = .ok (.if_icmp .eq 5, 3) := by decide +kernel
theorem dL_law_1208 : decode cL_law 1208 = .ok (.iconst 0, 1) := by decide +kernel
theorem dL_law_1209 : decode cL_law 1209 = .ok (.ireturn, 1) := by decide +kernel
theorem dL_law_1210 : decode cL_law 1210 = .ok (.iinc 3 6, 3) := by decide +kernel
theorem dL_law_1213 : decode cL_law 1213 = .ok (.goto (-1195), 3) := by decide +kernel
theorem dL_law_1216 : decode cL_law 1216 = .ok (.iconst 1, 1) := by decide +kernel
theorem dL_law_1217 : decode cL_law 1217 = .ok (.ireturn, 1) := by decide +kernel
end
section
/-! THE CORE: a typed memory over the kit's worlds: every cell of the system has a fixed shape; what changes is one map of ints. -/
abbrev Mm : Type := Nat → Nat → Int32
abbrev Sh : Type := (Nat × Nat) ⊕ (Nat × List Nat)
abbrev Gx : Type := va_G × ClassId × ClassId × ClassId × (Nat → Nat)
/-- the words of the tables that hold for good -/
def gT : List Cond := lw_tbl.filter goodWord
theorem gT_in {w : Cond} (i : Nat) (h : lw_tbl[i]? = some w) (hg : goodWord w = true) : w ∈ gT := List.mem_filter.mpr ⟨List.mem_of_getElem? h, hg⟩
theorem gT_good : GoodIn gT gT := fun w h => ⟨h, good_of_word (List.mem_filter.mp h).2⟩
theorem gT_goodC {w : Cond} (hw : w ∈ gT) : GoodIn gT (w :: gT) := fun v h => (List.mem_cons.mp h).elim (fun e => by rw [e]; exact gT_good w hw) (gT_good v)
def up (M : Mm) (k j : Nat) (x : Int32) : Mm := fun a b => if a = k then (if b = j then x else M a b) else M a b
def cfv (G : Gx) (M : Mm) (k j t : Nat) : Value := match t with
  | 0 => .int (M k j)
  | 1 => .long (M k j).toInt64
  | r + 2 => .ref (G.2.2.2.2 r)
def ccl (G : Gx) (M : Mm) (k : Nat) (c : Sh) : va_E := match c with
  | .inl (0, n) => .inl (G.2.1, n, .inl (M k))
  | .inl (1, n) => .inl (G.2.2.1, n, .inl (M k))
  | .inl (b + 2, n) => .inl (G.2.2.2.1, n, .inr (.inr (.inr (.inr (fun i => some (G.2.2.2.2 (b + 2 * i)))))))
  | .inr (ci, ts) => .inr (ci, ts.mapIdx (fun j t => cfv G M k j t))
def wl (sh : List Sh) (G : Gx) (M : Mm) : va_W := sh.mapIdx (fun k c => (G.2.2.2.2 k, ccl G M k c))
theorem wl_get {sh : List Sh} {G : Gx} {M : Mm} {k : Nat} {c : Sh} (h : sh[k]? = some c) : (wl sh G M)[k]? = some (G.2.2.2.2 k, ccl G M k c) := by
  simp [wl, h]
theorem wl_inv {sh : List Sh} {G : Gx} {M : Mm} {k : Nat} {q : Nat × va_E} (h : (wl sh G M)[k]? = some q) : ∃ c, sh[k]? = some c ∧ q = (G.2.2.2.2 k, ccl G M k c) := by
  simp only [wl, List.getElem?_mapIdx] at h
  cases hc : sh[k]? with
  | none => rw [hc] at h; cases h
  | some c => rw [hc] at h; exact ⟨c, rfl, (Option.some.inj h).symm⟩
theorem up_ne {M : Mm} {k j a : Nat} {x : Int32} (h : a ≠ k) : up M k j x a = M a := by
  funext b; simp [up, h]
theorem up_eq {M : Mm} {k j : Nat} {x : Int32} : up M k j x k = fun b => if b = j then x else M k b := by
  funext b; simp [up]
theorem ccl_ne {G : Gx} {M : Mm} {k j i : Nat} {x : Int32} {c : Sh} (h : i ≠ k) : ccl G (up M k j x) i c = ccl G M i c := by
  rcases c with ⟨t, n⟩ | ⟨ci, ts⟩
  · match t with
    | 0 => simp only [ccl, up_ne h]
    | 1 => simp only [ccl, up_ne h]
    | b + 2 => rfl
  · simp only [ccl]
    congr 2
    refine congrArg (fun f => ts.mapIdx f) ?_
    funext j2 t2
    match t2 with
    | 0 => simp only [cfv, up_ne h]
    | 1 => simp only [cfv, up_ne h]
    | r + 2 => rfl
theorem wl_set {sh : List Sh} {G : Gx} {M : Mm} {k j : Nat} {x : Int32} {c : Sh} {e : va_E} (h : sh[k]? = some c) (he : e = ccl G (up M k j x) k c) : (wl sh G M).set k (G.2.2.2.2 k, e) = wl sh G (up M k j x) := by
  apply List.ext_getElem?
  intro i
  rw [List.getElem?_set]
  have hk : k < sh.length := (List.getElem?_eq_some_iff.mp h).1
  by_cases hi : k = i
  · subst hi
    rw [if_pos rfl, if_pos (by simp [wl, hk]), he, wl_get h]
  · rw [if_neg hi]
    simp only [wl, List.getElem?_mapIdx]
    cases hc : sh[i]? with
    | none => rfl
    | some c => simp only [Option.map, ccl_ne (fun q => hi q.symm)]
theorem cfv_set {G : Gx} {M : Mm} {k j : Nat} {x : Int32} {v : Value} {ts : List Nat} (hv : ∀ t, ts[j]? = some t → v = cfv G (up M k j x) k j t) (hr : ∀ (j2 t : Nat), j2 ≠ j → cfv G M k j2 t = cfv G (up M k j x) k j2 t) : (ts.mapIdx (fun j t => cfv G M k j t)).set j v = ts.mapIdx (fun j2 t => cfv G (up M k j x) k j2 t) := by
  apply List.ext_getElem?
  intro i
  rw [List.getElem?_set]
  simp only [List.getElem?_mapIdx, List.length_mapIdx]
  by_cases hi : j = i
  · subst hi
    rw [if_pos rfl]
    cases hc : ts[j]? with
    | none => rw [if_neg (by have := List.getElem?_eq_none_iff.mp hc; omega)]; rfl
    | some t => rw [if_pos (List.getElem?_eq_some_iff.mp hc).1]; exact congrArg some (hv t hc)
  · rw [if_neg hi]
    cases hc : ts[i]? with
    | none => rfl
    | some t => exact congrArg some (hr i t (fun q => hi q.symm))
theorem cfv_oth {G : Gx} {M : Mm} {k j j2 t : Nat} {x : Int32} (h : j2 ≠ j) : cfv G M k j2 t = cfv G (up M k j x) k j2 t := by
  match t with
  | 0 => simp [cfv, up, h]
  | 1 => simp [cfv, up, h]
  | r + 2 => rfl
theorem wl_setF {sh : List Sh} {G : Gx} {M : Mm} {k j ci : Nat} {x : Int32} {ts : List Nat} (h : sh[k]? = some (.inr (ci, ts))) (ht : ts[j]? = some 0) : (wl sh G M).set k (G.2.2.2.2 k, .inr (ci, (ts.mapIdx (fun j t => cfv G M k j t)).set j (.int x))) = wl sh G (up M k j x) := by
  refine wl_set h ?_
  simp only [ccl]
  congr 2
  refine cfv_set (fun t h1 => ?_) (fun j2 t h1 => cfv_oth h1)
  rw [ht] at h1
  cases h1
  simp [cfv, up]
theorem wl_setL {sh : List Sh} {G : Gx} {M : Mm} {k j ci : Nat} {x : Int64} {ts : List Nat} (h : sh[k]? = some (.inr (ci, ts))) (ht : ts[j]? = some 1) (hx : x.toInt32.toInt64 = x) : (wl sh G M).set k (G.2.2.2.2 k, .inr (ci, (ts.mapIdx (fun j t => cfv G M k j t)).set j (.long x))) = wl sh G (up M k j x.toInt32) := by
  refine wl_set h ?_
  simp only [ccl]
  congr 2
  refine cfv_set (fun t h1 => ?_) (fun j2 t h1 => cfv_oth h1)
  rw [ht] at h1
  cases h1
  simp [cfv, up, hx]
theorem wl_setA {sh : List Sh} {G : Gx} {M : Mm} {k n i : Nat} {x : Int32} (h : sh[k]? = some (.inl (0, n))) : (wl sh G M).set k (G.2.2.2.2 k, .inl (G.2.1, n, .inl (upd (M k) i x))) = wl sh G (up M k i x) := by
  refine wl_set h ?_
  simp only [ccl]
  congr 3
  rw [up_eq]
  rfl
theorem wl_setZ {sh : List Sh} {G : Gx} {M : Mm} {k n i : Nat} {x : Int32} (h : sh[k]? = some (.inl (1, n))) : (wl sh G M).set k (G.2.2.2.2 k, .inl (G.2.2.1, n, .inl (upd (M k) i x))) = wl sh G (up M k i x) := by
  refine wl_set h ?_
  simp only [ccl]
  congr 3
  rw [up_eq]
  rfl
theorem wl_D {sh : List Sh} {G : Gx} {M M' : Mm} {A : Nat → Prop} (h : va_D A (wl sh G M)) : va_D A (wl sh G M') := by
  refine ⟨fun i j p q hp hq e => ?_, fun k q hk => ?_⟩
  · obtain ⟨c, h1, rfl⟩ := wl_inv hp
    obtain ⟨d, h2, rfl⟩ := wl_inv hq
    exact h.1 i j _ _ (wl_get h1) (wl_get h2) e
  · obtain ⟨c, h1, rfl⟩ := wl_inv hk
    have h3 := h.2 k _ (wl_get (G := G) (M := M) h1)
    exact h3
/-- the cells that a method may change: the world's, and new ones -/
def AX (sh : List Sh) (G : Gx) (sz : Nat) : Nat → Prop := fun q => (∃ k, k < sh.length ∧ q = G.2.2.2.2 k) ∨ sz ≤ q
theorem AX_D {sh : List Sh} {G : Gx} {M : Mm} {A : Nat → Prop} {sz : Nat} (h : va_D A (wl sh G M)) : va_D (AX sh G sz) (wl sh G M) :=
  ⟨h.1, fun k q hk => by obtain ⟨c, h1, rfl⟩ := wl_inv hk; exact Or.inl ⟨k, (List.getElem?_eq_some_iff.mp h1).1, rfl⟩⟩
theorem AX_le {sh : List Sh} {G : Gx} {a b : Nat} (h : a ≤ b) {q : Nat} (hq : AX sh G b q) : AX sh G a q := hq.elim Or.inl (fun z => Or.inr (Nat.le_trans h z))
abbrev tys3 (G : Gx) : List (ClassId × FieldType) := [(G.2.1, .int), (G.2.2.1, .boolean), (G.2.2.2.1, .object RX0)]
/-- what is known besides of a state: nothing yet -/
def XT (_ : Gx) (_ : List Sh) (_ : State) : Prop := True
theorem XT_moved {G : Gx} {sh : List Sh} {s U : State} {H : Heap} {locs : List Loc} (_ : XT G sh s) (_ : va_S (AX sh G s.heap.size) s.heap H locs) (_ : U.heap = H) (_ : s.vm.Alike U.vm) : XT G sh U := trivial
theorem XT_calling {G : Gx} {sh : List Sh} {U : State} {g : JFrame} {mk : MethodId} {a : Array Value} (_ : XT G sh U) : XT G sh (U.calling g mk a) := trivial
def PG (G : Gx) (sh : List Sh) (M : Mm) (sz : Nat) (U : State) : Prop := U.heap.size = sz ∧ va_P G.1 vwCl (wl sh G M) U.heap ∧ va_K G.1 vwCl (tys3 G) U ∧ va_D (fun _ => True) (wl sh G M) ∧ XT G sh U
def QG (v : Option Value) (G : Gx) (sh : List Sh) (M' : Mm) (sz : Nat) : Array Value → State → Outcome → State → Prop := fun _ st oc t => (oc = .returned v ∧ va_P G.1 vwCl (wl sh G M') t.heap) ∧ va_F (AX sh G sz) st t
/-- a method's contract: whatever answer and memory e foretells, it returns with them -/
def CT {α : Type} (y : MethodName) (cc : ByteArray) (maxL : Nat) (ret : Option FieldType) (rm : Room) (G : Gx) (sh : List Sh) (argv : List Value) (rv : α → Option Value) (M : Mm) (e : Option (α × Mm)) : Prop :=
  ∀ (l : Launch) (r : α) (M' : Mm) (sz : Nat), e = some (r, M') → Met l y (Cond.code y cc maxL ret :: gT) rm (va_Pc argv (PG G sh M sz)) (QG (rv r) G sh M' sz) 0 0 (AX sh G sz)
abbrev Cx : Type := Program × Launch × Env × Room × State × MethodId × Array Value × List Frame × Method × Code
def VW (X : Cx) (G : Gx) (sh : List Sh) (nL : Nat) (Q : State → Prop) (M : Mm) (pc : Nat) (lo : List (Nat × Value)) (st : List Value) : Prop := match X with
  | (p, l, e, R, s, m, args, below, meth, c) => ∀ (H : Heap) (locs : List Loc) (ls : Array Slot), va_P G.1 vwCl (wl sh G M) H → va_D (AX sh G s.heap.size) (wl sh G M) → va_S (AX sh G s.heap.size) s.heap H locs → lv_has ls nL lo → W p l e R s m args below meth c H locs 0 0 Q (F0 m pc ls st)
def VQ (X : Cx) (G : Gx) (sh : List Sh) (v : Option Value) (M' : Mm) : State → Prop := match X with
  | (_, _, _, _, s, _, args, below, _, _) => MQ below (QG v G sh M' s.heap.size) args s 0 0 (AX sh G s.heap.size)
def FX (X : Cx) (G : Gx) (sh : List Sh) (nL : Nat) (cc : ByteArray) (own : String) (ret : Option FieldType) (rm : Room) : Prop := match X with
  | (p, _, _, R, s, m, args, _, meth, c) => p.tables.exec = Jvm.exec ∧ c.code = cc ∧ s.vm.findClass own = some m.cls ∧ (∀ w ∈ gT, w.before args s = true) ∧ va_K G.1 vwCl (tys3 G) s ∧ c.maxLocals = nL ∧ meth.sig.returnType = ret ∧ meth.locks = false ∧ R = rm ∧ XT G sh s
def VR {α : Type} (X : Cx) (G : Gx) (sh : List Sh) (nL : Nat) (rv : α → Option Value) (M : Mm) (pc : Nat) (lo : List (Nat × Value)) (st : List Value) (e : Option (α × Mm)) : Prop :=
  ∀ (r : α) (M' : Mm), e = some (r, M') → VW X G sh nL (VQ X G sh (rv r) M') M pc lo st
def rvI : Int32 → Option Value := fun r => some (.int r)
def rvJ : Int64 → Option Value := fun r => some (.long r)
def rvV : Unit → Option Value := fun _ => none
def rvR (G : Gx) : Option Nat → Option Value := fun r => match r with
  | some k => some (.ref (G.2.2.2.2 k))
  | none => some .null
def gd {β : Type} (b : Bool) (e : Option β) : Option β := match b with
  | true => e
  | false => none
def bd {α β : Type} (o : Option (α × Mm)) (f : α → Mm → Option β) : Option β := match o with
  | some x => f x.1 x.2
  | none => none
def lt1 {α β : Type} (x : α) (f : α → β) : β := f x
def inr (i : Int32) (n : Nat) : Bool := !(decide (i < 0) || decide (n ≤ i.toNatClampNeg))
def z01 (x : Int32) : Bool := decide (x = 0) || decide (x = 1)
def ushr (x y : Int32) : Int32 := (x.toUInt32 >>> (y.toUInt32 &&& Int32.toUInt32 31)).toInt32
def shl (x y : Int32) : Int32 := x <<< (y &&& 31)
def shr (x y : Int32) : Int32 := x >>> (y &&& 31)
def irm (x y : Int32) : Int32 := x - x / y * y
def lrm (x y : Int64) : Int64 := x - x / y * y
def FU : Nat := 1000000
def rcase {β : Type} (f0 : Mm → β) (f1 : Nat → Mm → β) : Option Nat → Mm → β := fun r M => match r with
  | none => f0 M
  | some a => f1 a M
def mmin (x y : Int32) : Int32 := if y < x then y else x
def mmax (x y : Int32) : Int32 := if x < y then y else x
theorem inr_in {i : Int32} {n : Nat} (h : inr i n = true) : vp_in i n := by
  intro q
  simp only [inr, Bool.not_eq_true', Bool.or_eq_false_iff, decide_eq_false_iff_not] at h
  exact q.elim h.1 h.2
theorem CT.of {α : Type} {y : MethodName} {cc : ByteArray} {maxL : Nat} {ret : Option FieldType} {rm : Room} {G : Gx} {sh : List Sh} {argv : List Value} {rv : α → Option Value} {M : Mm} {e : Option (α × Mm)} (hy : plainName y.cls = true) (hn : (lg_sl argv).length ≤ maxL) (h : ∀ X : Cx, FX X G sh maxL cc y.cls ret rm → VR X G sh maxL rv M 0 (lv_args 0 argv) [] e) : CT y cc maxL ret rm G sh argv rv M e := by
  intro l r M' sz he
  refine Met.ofW (cc := cc) (maxL := maxL) (ret := ret) hy rfl ?_
  intro p en s m args below meth c s₁ B hml hv
  obtain ⟨rfl, hsz, hP, hK, hD0, hX⟩ := hv
  have hts := atoms_spec (ws := Cond.code y cc maxL ret :: gT) B.pre
  have hF : FX (p, l, en, rm, s, m, argv.toArray, below, meth, c) G sh maxL cc y.cls ret rm := ⟨B.exec, B.bytes, findClass_of_methodNamed B.named, fun w hw => hts w (List.mem_cons_of_mem _ hw), hK, hml, B.returns, B.notSynchronized, rfl, hX⟩
  have k := h _ hF r M' he s.heap [] ((lg_sl argv ++ List.replicate (maxL - (lg_sl argv).length) Slot.unset).toArray) hP (AX_D hD0) va_S.rf (lv_entry argv hn)
  rw [lg_entry_eq]
  subst hsz
  exact k
section VRS
variable {α : Type} {X : Cx} {G : Gx} {sh : List Sh} {nL : Nat} {rv : α → Option Value} {M : Mm} {pc q : Nat} {lo : List (Nat × Value)} {st : List Value} {e : Option (α × Mm)} {cc : ByteArray} {own : String} {ret : Option FieldType} {rm : Room}
theorem VR.none : VR X G sh nL rv M pc lo st (Option.none : Option (α × Mm)) := fun _ _ h => by cases h
theorem VR.pick {lo' : List (Nat × Value)} (ks : List Nat) (h : lv_pick lo ks = lo') (k : VR X G sh nL rv M pc lo' st e) : VR X G sh nL rv M pc lo st e := by
  obtain ⟨p, l, en, R, s, m, args, below, meth, c⟩ := X
  intro r M' he H locs ls hP hD hS hl
  exact k r M' he H locs ls hP hD hS (lv_sub hl ks h)
theorem v_gd {b : Bool} (k : b = true → VR X G sh nL rv M pc lo st e) : VR X G sh nL rv M pc lo st (gd b e) := by
  cases b with
  | true => exact k rfl
  | false => exact VR.none
theorem v_iconst {n : Int} (v : Int32) (q : Nat) (hF : FX X G sh nL cc own ret rm) (hd : decode cc pc = .ok (.iconst n, 1)) (hq : pc + 1 = q) (hv : Int32.ofInt n = v) (k : VR X G sh nL rv M q lo (.int v :: st) e) : VR X G sh nL rv M pc lo st e := by
  obtain ⟨p, l, en, R, s, m, args, below, meth, c⟩ := X
  subst hq
  intro r M' he H locs ls hP hD hS hl
  obtain ⟨hx, hb, hown, hts, hK, hml, hr, hlk, hR, hXT⟩ := hF
  exact lv_iconst hx hb hd hv (k r M' he H locs ls hP hD hS hl)
theorem v_bipush {n : Int} (v : Int32) (q : Nat) (hF : FX X G sh nL cc own ret rm) (hd : decode cc pc = .ok (.bipush n, 2)) (hq : pc + 2 = q) (hv : (Int8.ofInt n).toInt32 = v) (k : VR X G sh nL rv M q lo (.int v :: st) e) : VR X G sh nL rv M pc lo st e := by
  obtain ⟨p, l, en, R, s, m, args, below, meth, c⟩ := X
  subst hq
  intro r M' he H locs ls hP hD hS hl
  obtain ⟨hx, hb, hown, hts, hK, hml, hr, hlk, hR, hXT⟩ := hF
  exact lv_bipush hx hb hd hv (k r M' he H locs ls hP hD hS hl)
theorem v_sipush {n : Int} (v : Int32) (q : Nat) (hF : FX X G sh nL cc own ret rm) (hd : decode cc pc = .ok (.sipush n, 3)) (hq : pc + 3 = q) (hv : (Int16.ofInt n).toInt32 = v) (k : VR X G sh nL rv M q lo (.int v :: st) e) : VR X G sh nL rv M pc lo st e := by
  obtain ⟨p, l, en, R, s, m, args, below, meth, c⟩ := X
  subst hq
  intro r M' he H locs ls hP hD hS hl
  obtain ⟨hx, hb, hown, hts, hK, hml, hr, hlk, hR, hXT⟩ := hF
  exact lv_sipush hx hb hd hv (k r M' he H locs ls hP hD hS hl)
theorem v_lconst {n : Fin 2} (v : Int64) (q : Nat) (hF : FX X G sh nL cc own ret rm) (hd : decode cc pc = .ok (.lconst n, 1)) (hq : pc + 1 = q) (hv : Int64.ofNat (n : Nat) = v) (k : VR X G sh nL rv M q lo (.long v :: st) e) : VR X G sh nL rv M pc lo st e := by
  obtain ⟨p, l, en, R, s, m, args, below, meth, c⟩ := X
  subst hq
  intro r M' he H locs ls hP hD hS hl
  obtain ⟨hx, hb, hown, hts, hK, hml, hr, hlk, hR, hXT⟩ := hF
  exact lv_lconst hx hb hd hv (k r M' he H locs ls hP hD hS hl)
theorem v_ldc {index : Nat} (v : Int32) (q : Nat) (hF : FX X G sh nL cc own ret rm) (hd : decode cc pc = .ok (.ldc index, 2)) (hq : pc + 2 = q) (hc : Cond.constant own index v ∈ gT) (k : VR X G sh nL rv M q lo (.int v :: st) e) : VR X G sh nL rv M pc lo st e := by
  obtain ⟨p, l, en, R, s, m, args, below, meth, c⟩ := X
  subst hq
  intro r M' he H locs ls hP hD hS hl
  obtain ⟨hx, hb, hown, hts, hK, hml, hr, hlk, hR, hXT⟩ := hF
  exact lv_ldc hx hb hown (hts _ hc) hd (k r M' he H locs ls hP hD hS hl)
theorem v_ldcw {index : Nat} (v : Int32) (q : Nat) (hF : FX X G sh nL cc own ret rm) (hd : decode cc pc = .ok (.ldc_w index, 3)) (hq : pc + 3 = q) (hc : Cond.constant own index v ∈ gT) (k : VR X G sh nL rv M q lo (.int v :: st) e) : VR X G sh nL rv M pc lo st e := by
  obtain ⟨p, l, en, R, s, m, args, below, meth, c⟩ := X
  subst hq
  intro r M' he H locs ls hP hD hS hl
  obtain ⟨hx, hb, hown, hts, hK, hml, hr, hlk, hR, hXT⟩ := hF
  exact lv_ldcw hx hb hown (hts _ hc) hd (k r M' he H locs ls hP hD hS hl)
theorem v_ldc2 {index : Nat} (v : Int64) (q : Nat) (hF : FX X G sh nL cc own ret rm) (hd : decode cc pc = .ok (.ldc2_w index, 3)) (hq : pc + 3 = q) (hc : Cond.constantLong own index v ∈ gT) (k : VR X G sh nL rv M q lo (.long v :: st) e) : VR X G sh nL rv M pc lo st e := by
  obtain ⟨p, l, en, R, s, m, args, below, meth, c⟩ := X
  subst hq
  intro r M' he H locs ls hP hD hS hl
  obtain ⟨hx, hb, hown, hts, hK, hml, hr, hlk, hR, hXT⟩ := hF
  exact lv_ldc2 hx hb hown (hts _ hc) hd (k r M' he H locs ls hP hD hS hl)
theorem v_null  (q : Nat) (hF : FX X G sh nL cc own ret rm) (hd : decode cc pc = .ok (.aconst_null, 1)) (hq : pc + 1 = q) (k : VR X G sh nL rv M q lo (.null :: st) e) : VR X G sh nL rv M pc lo st e := by
  obtain ⟨p, l, en, R, s, m, args, below, meth, c⟩ := X
  subst hq
  intro r M' he H locs ls hP hD hS hl
  obtain ⟨hx, hb, hown, hts, hK, hml, hr, hlk, hR, hXT⟩ := hF
  exact lv_null hx hb hd (k r M' he H locs ls hP hD hS hl)
theorem v_iload_n {j : Fin 4} {i : Nat} {x : Int32} (a : Nat) (q : Nat) (hF : FX X G sh nL cc own ret rm) (hd : decode cc pc = .ok (.iload_n j, 1)) (hq : pc + 1 = q) (hi : (j : Nat) = i) (hlo : lo[a]? = some (i, .int x)) (k : VR X G sh nL rv M q lo (.int x :: st) e) : VR X G sh nL rv M pc lo st e := by
  obtain ⟨p, l, en, R, s, m, args, below, meth, c⟩ := X
  subst hq
  intro r M' he H locs ls hP hD hS hl
  obtain ⟨hx, hb, hown, hts, hK, hml, hr, hlk, hR, hXT⟩ := hF
  exact lv_iload_n hx hb hd hi (lv_at hl a hlo) (k r M' he H locs ls hP hD hS hl)
theorem v_iload {i : Nat} {x : Int32} (a : Nat) (q : Nat) (hF : FX X G sh nL cc own ret rm) (hd : decode cc pc = .ok (.iload i, 2)) (hq : pc + 2 = q) (hlo : lo[a]? = some (i, .int x)) (k : VR X G sh nL rv M q lo (.int x :: st) e) : VR X G sh nL rv M pc lo st e := by
  obtain ⟨p, l, en, R, s, m, args, below, meth, c⟩ := X
  subst hq
  intro r M' he H locs ls hP hD hS hl
  obtain ⟨hx, hb, hown, hts, hK, hml, hr, hlk, hR, hXT⟩ := hF
  exact lv_iload hx hb hd (lv_at hl a hlo) (k r M' he H locs ls hP hD hS hl)
theorem v_lload_n {j : Fin 4} {i : Nat} {x : Int64} (a : Nat) (q : Nat) (hF : FX X G sh nL cc own ret rm) (hd : decode cc pc = .ok (.lload_n j, 1)) (hq : pc + 1 = q) (hi : (j : Nat) = i) (hlo : lo[a]? = some (i, .long x)) (k : VR X G sh nL rv M q lo (.long x :: st) e) : VR X G sh nL rv M pc lo st e := by
  obtain ⟨p, l, en, R, s, m, args, below, meth, c⟩ := X
  subst hq
  intro r M' he H locs ls hP hD hS hl
  obtain ⟨hx, hb, hown, hts, hK, hml, hr, hlk, hR, hXT⟩ := hF
  exact lv_lload_n hx hb hd hi (lv_at hl a hlo) (k r M' he H locs ls hP hD hS hl)
theorem v_lload {i : Nat} {x : Int64} (a : Nat) (q : Nat) (hF : FX X G sh nL cc own ret rm) (hd : decode cc pc = .ok (.lload i, 2)) (hq : pc + 2 = q) (hlo : lo[a]? = some (i, .long x)) (k : VR X G sh nL rv M q lo (.long x :: st) e) : VR X G sh nL rv M pc lo st e := by
  obtain ⟨p, l, en, R, s, m, args, below, meth, c⟩ := X
  subst hq
  intro r M' he H locs ls hP hD hS hl
  obtain ⟨hx, hb, hown, hts, hK, hml, hr, hlk, hR, hXT⟩ := hF
  exact lv_lload hx hb hd (lv_at hl a hlo) (k r M' he H locs ls hP hD hS hl)
theorem v_aload_n {j : Fin 4} {i : Nat} {x : Nat} (a : Nat) (q : Nat) (hF : FX X G sh nL cc own ret rm) (hd : decode cc pc = .ok (.aload_n j, 1)) (hq : pc + 1 = q) (hi : (j : Nat) = i) (hlo : lo[a]? = some (i, .ref x)) (k : VR X G sh nL rv M q lo (.ref x :: st) e) : VR X G sh nL rv M pc lo st e := by
  obtain ⟨p, l, en, R, s, m, args, below, meth, c⟩ := X
  subst hq
  intro r M' he H locs ls hP hD hS hl
  obtain ⟨hx, hb, hown, hts, hK, hml, hr, hlk, hR, hXT⟩ := hF
  exact lv_aload_n hx hb hd hi (lv_at hl a hlo) (k r M' he H locs ls hP hD hS hl)
theorem v_aload {i : Nat} {x : Nat} (a : Nat) (q : Nat) (hF : FX X G sh nL cc own ret rm) (hd : decode cc pc = .ok (.aload i, 2)) (hq : pc + 2 = q) (hlo : lo[a]? = some (i, .ref x)) (k : VR X G sh nL rv M q lo (.ref x :: st) e) : VR X G sh nL rv M pc lo st e := by
  obtain ⟨p, l, en, R, s, m, args, below, meth, c⟩ := X
  subst hq
  intro r M' he H locs ls hP hD hS hl
  obtain ⟨hx, hb, hown, hts, hK, hml, hr, hlk, hR, hXT⟩ := hF
  exact lv_aload hx hb hd (lv_at hl a hlo) (k r M' he H locs ls hP hD hS hl)
theorem v_aload_nN {j : Fin 4} {i : Nat} (a : Nat) (q : Nat) (hF : FX X G sh nL cc own ret rm) (hd : decode cc pc = .ok (.aload_n j, 1)) (hq : pc + 1 = q) (hi : (j : Nat) = i) (hlo : lo[a]? = some (i, .null)) (k : VR X G sh nL rv M q lo (.null :: st) e) : VR X G sh nL rv M pc lo st e := by
  obtain ⟨p, l, en, R, s, m, args, below, meth, c⟩ := X
  subst hq
  intro r M' he H locs ls hP hD hS hl
  obtain ⟨hx, hb, hown, hts, hK, hml, hr, hlk, hR, hXT⟩ := hF
  exact lv_aload_nN hx hb hd hi (lv_at hl a hlo) (k r M' he H locs ls hP hD hS hl)
theorem v_aloadN {i : Nat} (a : Nat) (q : Nat) (hF : FX X G sh nL cc own ret rm) (hd : decode cc pc = .ok (.aload i, 2)) (hq : pc + 2 = q) (hlo : lo[a]? = some (i, .null)) (k : VR X G sh nL rv M q lo (.null :: st) e) : VR X G sh nL rv M pc lo st e := by
  obtain ⟨p, l, en, R, s, m, args, below, meth, c⟩ := X
  subst hq
  intro r M' he H locs ls hP hD hS hl
  obtain ⟨hx, hb, hown, hts, hK, hml, hr, hlk, hR, hXT⟩ := hF
  exact lv_aloadN hx hb hd (lv_at hl a hlo) (k r M' he H locs ls hP hD hS hl)
theorem v_istore_n {j : Fin 4} {i : Nat} {x : Int32} {lo' : Int32 → List (Nat × Value)} {f : Int32 → Option (α × Mm)} (q : Nat) (hF : FX X G sh nL cc own ret rm) (hd : decode cc pc = .ok (.istore_n j, 1)) (hq : pc + 1 = q) (hi : (j : Nat) = i) (hn : i < nL) (hlo : ∀ y, (i, Value.int y) :: lo.filter (fun q => !(q.1 == i) && !(q.1 + 1 == i && q.2.category == 2)) = lo' y) (k : ∀ y, VR X G sh nL rv M q (lo' y) st (f y)) : VR X G sh nL rv M pc lo (.int x :: st) (lt1 x f) := by
  obtain ⟨p, l, en, R, s, m, args, below, meth, c⟩ := X
  subst hq
  intro r M' he H locs ls hP hD hS hl
  obtain ⟨hx, hb, hown, hts, hK, hml, hr, hlk, hR, hXT⟩ := hF
  exact lv_istore_n hx hb hd hi hl hn (hlo x) (fun ls hl => k x r M' he H locs ls hP hD hS hl)
theorem v_lstore_n {j : Fin 4} {i : Nat} {x : Int64} {lo' : Int64 → List (Nat × Value)} {f : Int64 → Option (α × Mm)} (q : Nat) (hF : FX X G sh nL cc own ret rm) (hd : decode cc pc = .ok (.lstore_n j, 1)) (hq : pc + 1 = q) (hi : (j : Nat) = i) (hn : i + 1 < nL) (hlo : ∀ y, (i, Value.long y) :: lo.filter (fun q => !(q.1 == i) && (!(q.1 == i + 1) && !(q.1 + 1 == i && q.2.category == 2))) = lo' y) (k : ∀ y, VR X G sh nL rv M q (lo' y) st (f y)) : VR X G sh nL rv M pc lo (.long x :: st) (lt1 x f) := by
  obtain ⟨p, l, en, R, s, m, args, below, meth, c⟩ := X
  subst hq
  intro r M' he H locs ls hP hD hS hl
  obtain ⟨hx, hb, hown, hts, hK, hml, hr, hlk, hR, hXT⟩ := hF
  exact lv_lstore_n hx hb hd hi hl hn (hlo x) (fun ls hl => k x r M' he H locs ls hP hD hS hl)
theorem v_astore_n {j : Fin 4} {i : Nat} {x : Nat} {lo' : List (Nat × Value)} (q : Nat) (hF : FX X G sh nL cc own ret rm) (hd : decode cc pc = .ok (.astore_n j, 1)) (hq : pc + 1 = q) (hi : (j : Nat) = i) (hn : i < nL) (hlo : (i, Value.ref x) :: lo.filter (fun q => !(q.1 == i) && !(q.1 + 1 == i && q.2.category == 2)) = lo') (k : VR X G sh nL rv M q lo' st e) : VR X G sh nL rv M pc lo (.ref x :: st) e := by
  obtain ⟨p, l, en, R, s, m, args, below, meth, c⟩ := X
  subst hq
  intro r M' he H locs ls hP hD hS hl
  obtain ⟨hx, hb, hown, hts, hK, hml, hr, hlk, hR, hXT⟩ := hF
  exact lv_astore_n hx hb hd hi hl hn hlo (fun ls hl => k r M' he H locs ls hP hD hS hl)
theorem v_astore_nN {j : Fin 4} {i : Nat} {lo' : List (Nat × Value)} (q : Nat) (hF : FX X G sh nL cc own ret rm) (hd : decode cc pc = .ok (.astore_n j, 1)) (hq : pc + 1 = q) (hi : (j : Nat) = i) (hn : i < nL) (hlo : (i, Value.null) :: lo.filter (fun q => !(q.1 == i) && !(q.1 + 1 == i && q.2.category == 2)) = lo') (k : VR X G sh nL rv M q lo' st e) : VR X G sh nL rv M pc lo (.null :: st) e := by
  obtain ⟨p, l, en, R, s, m, args, below, meth, c⟩ := X
  subst hq
  intro r M' he H locs ls hP hD hS hl
  obtain ⟨hx, hb, hown, hts, hK, hml, hr, hlk, hR, hXT⟩ := hF
  exact lv_astore_nN hx hb hd hi hl hn hlo (fun ls hl => k r M' he H locs ls hP hD hS hl)
theorem v_istore {i : Nat} {x : Int32} {lo' : Int32 → List (Nat × Value)} {f : Int32 → Option (α × Mm)} (q : Nat) (hF : FX X G sh nL cc own ret rm) (hd : decode cc pc = .ok (.istore i, 2)) (hq : pc + 2 = q) (hn : i < nL) (hlo : ∀ y, (i, Value.int y) :: lo.filter (fun q => !(q.1 == i) && !(q.1 + 1 == i && q.2.category == 2)) = lo' y) (k : ∀ y, VR X G sh nL rv M q (lo' y) st (f y)) : VR X G sh nL rv M pc lo (.int x :: st) (lt1 x f) := by
  obtain ⟨p, l, en, R, s, m, args, below, meth, c⟩ := X
  subst hq
  intro r M' he H locs ls hP hD hS hl
  obtain ⟨hx, hb, hown, hts, hK, hml, hr, hlk, hR, hXT⟩ := hF
  exact lv_istore hx hb hd hl hn (hlo x) (fun ls hl => k x r M' he H locs ls hP hD hS hl)
theorem v_lstore {i : Nat} {x : Int64} {lo' : Int64 → List (Nat × Value)} {f : Int64 → Option (α × Mm)} (q : Nat) (hF : FX X G sh nL cc own ret rm) (hd : decode cc pc = .ok (.lstore i, 2)) (hq : pc + 2 = q) (hn : i + 1 < nL) (hlo : ∀ y, (i, Value.long y) :: lo.filter (fun q => !(q.1 == i) && (!(q.1 == i + 1) && !(q.1 + 1 == i && q.2.category == 2))) = lo' y) (k : ∀ y, VR X G sh nL rv M q (lo' y) st (f y)) : VR X G sh nL rv M pc lo (.long x :: st) (lt1 x f) := by
  obtain ⟨p, l, en, R, s, m, args, below, meth, c⟩ := X
  subst hq
  intro r M' he H locs ls hP hD hS hl
  obtain ⟨hx, hb, hown, hts, hK, hml, hr, hlk, hR, hXT⟩ := hF
  exact lv_lstore hx hb hd hl hn (hlo x) (fun ls hl => k x r M' he H locs ls hP hD hS hl)
theorem v_astore {i : Nat} {x : Nat} {lo' : List (Nat × Value)} (q : Nat) (hF : FX X G sh nL cc own ret rm) (hd : decode cc pc = .ok (.astore i, 2)) (hq : pc + 2 = q) (hn : i < nL) (hlo : (i, Value.ref x) :: lo.filter (fun q => !(q.1 == i) && !(q.1 + 1 == i && q.2.category == 2)) = lo') (k : VR X G sh nL rv M q lo' st e) : VR X G sh nL rv M pc lo (.ref x :: st) e := by
  obtain ⟨p, l, en, R, s, m, args, below, meth, c⟩ := X
  subst hq
  intro r M' he H locs ls hP hD hS hl
  obtain ⟨hx, hb, hown, hts, hK, hml, hr, hlk, hR, hXT⟩ := hF
  exact lv_astore hx hb hd hl hn hlo (fun ls hl => k r M' he H locs ls hP hD hS hl)
theorem v_astoreN {i : Nat} {lo' : List (Nat × Value)} (q : Nat) (hF : FX X G sh nL cc own ret rm) (hd : decode cc pc = .ok (.astore i, 2)) (hq : pc + 2 = q) (hn : i < nL) (hlo : (i, Value.null) :: lo.filter (fun q => !(q.1 == i) && !(q.1 + 1 == i && q.2.category == 2)) = lo') (k : VR X G sh nL rv M q lo' st e) : VR X G sh nL rv M pc lo (.null :: st) e := by
  obtain ⟨p, l, en, R, s, m, args, below, meth, c⟩ := X
  subst hq
  intro r M' he H locs ls hP hD hS hl
  obtain ⟨hx, hb, hown, hts, hK, hml, hr, hlk, hR, hXT⟩ := hF
  exact lv_astoreN hx hb hd hl hn hlo (fun ls hl => k r M' he H locs ls hP hD hS hl)
theorem v_iinc {i : Nat} {n : Int} {x v : Int32} {lo' : Int32 → List (Nat × Value)} {f : Int32 → Option (α × Mm)} (a : Nat) (q : Nat) (hF : FX X G sh nL cc own ret rm) (hd : decode cc pc = .ok (.iinc i n, 3)) (hq : pc + 3 = q) (hk : lo[a]? = some (i, .int x)) (hv : x + Int32.ofInt n = v) (hn : i < nL) (hlo : ∀ y, (i, Value.int y) :: lo.filter (fun q => !(q.1 == i) && !(q.1 + 1 == i && q.2.category == 2)) = lo' y) (k : ∀ y, VR X G sh nL rv M q (lo' y) st (f y)) : VR X G sh nL rv M pc lo st (lt1 v f) := by
  obtain ⟨p, l, en, R, s, m, args, below, meth, c⟩ := X
  subst hq
  intro r M' he H locs ls hP hD hS hl
  obtain ⟨hx, hb, hown, hts, hK, hml, hr, hlk, hR, hXT⟩ := hF
  exact lv_iinc hx hb hd hl hk hv hn (hlo v) (fun ls hl => k v r M' he H locs ls hP hD hS hl)
theorem v_iadd {x y : Int32} (q : Nat) (hF : FX X G sh nL cc own ret rm) (hd : decode cc pc = .ok (.iadd, 1)) (hq : pc + 1 = q) (k : VR X G sh nL rv M q lo (.int (x + y) :: st) e) : VR X G sh nL rv M pc lo (.int y :: .int x :: st) e := by
  obtain ⟨p, l, en, R, s, m, args, below, meth, c⟩ := X
  subst hq
  intro r M' he H locs ls hP hD hS hl
  obtain ⟨hx, hb, hown, hts, hK, hml, hr, hlk, hR, hXT⟩ := hF
  exact lv_iadd hx hb hd (k r M' he H locs ls hP hD hS hl)
theorem v_isub {x y : Int32} (q : Nat) (hF : FX X G sh nL cc own ret rm) (hd : decode cc pc = .ok (.isub, 1)) (hq : pc + 1 = q) (k : VR X G sh nL rv M q lo (.int (x - y) :: st) e) : VR X G sh nL rv M pc lo (.int y :: .int x :: st) e := by
  obtain ⟨p, l, en, R, s, m, args, below, meth, c⟩ := X
  subst hq
  intro r M' he H locs ls hP hD hS hl
  obtain ⟨hx, hb, hown, hts, hK, hml, hr, hlk, hR, hXT⟩ := hF
  exact lv_isub hx hb hd (k r M' he H locs ls hP hD hS hl)
theorem v_imul {x y : Int32} (q : Nat) (hF : FX X G sh nL cc own ret rm) (hd : decode cc pc = .ok (.imul, 1)) (hq : pc + 1 = q) (k : VR X G sh nL rv M q lo (.int (x * y) :: st) e) : VR X G sh nL rv M pc lo (.int y :: .int x :: st) e := by
  obtain ⟨p, l, en, R, s, m, args, below, meth, c⟩ := X
  subst hq
  intro r M' he H locs ls hP hD hS hl
  obtain ⟨hx, hb, hown, hts, hK, hml, hr, hlk, hR, hXT⟩ := hF
  exact lv_imul hx hb hd (k r M' he H locs ls hP hD hS hl)
theorem v_iand {x y : Int32} (q : Nat) (hF : FX X G sh nL cc own ret rm) (hd : decode cc pc = .ok (.iand, 1)) (hq : pc + 1 = q) (k : VR X G sh nL rv M q lo (.int (x &&& y) :: st) e) : VR X G sh nL rv M pc lo (.int y :: .int x :: st) e := by
  obtain ⟨p, l, en, R, s, m, args, below, meth, c⟩ := X
  subst hq
  intro r M' he H locs ls hP hD hS hl
  obtain ⟨hx, hb, hown, hts, hK, hml, hr, hlk, hR, hXT⟩ := hF
  exact lv_iand hx hb hd (k r M' he H locs ls hP hD hS hl)
theorem v_ior {x y : Int32} (q : Nat) (hF : FX X G sh nL cc own ret rm) (hd : decode cc pc = .ok (.ior, 1)) (hq : pc + 1 = q) (k : VR X G sh nL rv M q lo (.int (x ||| y) :: st) e) : VR X G sh nL rv M pc lo (.int y :: .int x :: st) e := by
  obtain ⟨p, l, en, R, s, m, args, below, meth, c⟩ := X
  subst hq
  intro r M' he H locs ls hP hD hS hl
  obtain ⟨hx, hb, hown, hts, hK, hml, hr, hlk, hR, hXT⟩ := hF
  exact lv_ior hx hb hd (k r M' he H locs ls hP hD hS hl)
theorem v_ixor {x y : Int32} (q : Nat) (hF : FX X G sh nL cc own ret rm) (hd : decode cc pc = .ok (.ixor, 1)) (hq : pc + 1 = q) (k : VR X G sh nL rv M q lo (.int (x ^^^ y) :: st) e) : VR X G sh nL rv M pc lo (.int y :: .int x :: st) e := by
  obtain ⟨p, l, en, R, s, m, args, below, meth, c⟩ := X
  subst hq
  intro r M' he H locs ls hP hD hS hl
  obtain ⟨hx, hb, hown, hts, hK, hml, hr, hlk, hR, hXT⟩ := hF
  exact lv_ixor hx hb hd (k r M' he H locs ls hP hD hS hl)
theorem v_ishl {x y : Int32} (q : Nat) (hF : FX X G sh nL cc own ret rm) (hd : decode cc pc = .ok (.ishl, 1)) (hq : pc + 1 = q) (k : VR X G sh nL rv M q lo (.int (shl x y) :: st) e) : VR X G sh nL rv M pc lo (.int y :: .int x :: st) e := by
  obtain ⟨p, l, en, R, s, m, args, below, meth, c⟩ := X
  subst hq
  intro r M' he H locs ls hP hD hS hl
  obtain ⟨hx, hb, hown, hts, hK, hml, hr, hlk, hR, hXT⟩ := hF
  exact lv_ishl hx hb hd (k r M' he H locs ls hP hD hS hl)
theorem v_ishr {x y : Int32} (q : Nat) (hF : FX X G sh nL cc own ret rm) (hd : decode cc pc = .ok (.ishr, 1)) (hq : pc + 1 = q) (k : VR X G sh nL rv M q lo (.int (shr x y) :: st) e) : VR X G sh nL rv M pc lo (.int y :: .int x :: st) e := by
  obtain ⟨p, l, en, R, s, m, args, below, meth, c⟩ := X
  subst hq
  intro r M' he H locs ls hP hD hS hl
  obtain ⟨hx, hb, hown, hts, hK, hml, hr, hlk, hR, hXT⟩ := hF
  exact lv_ishr hx hb hd (k r M' he H locs ls hP hD hS hl)
theorem v_ladd {x y : Int64} (q : Nat) (hF : FX X G sh nL cc own ret rm) (hd : decode cc pc = .ok (.ladd, 1)) (hq : pc + 1 = q) (k : VR X G sh nL rv M q lo (.long (x + y) :: st) e) : VR X G sh nL rv M pc lo (.long y :: .long x :: st) e := by
  obtain ⟨p, l, en, R, s, m, args, below, meth, c⟩ := X
  subst hq
  intro r M' he H locs ls hP hD hS hl
  obtain ⟨hx, hb, hown, hts, hK, hml, hr, hlk, hR, hXT⟩ := hF
  exact lv_ladd hx hb hd (k r M' he H locs ls hP hD hS hl)
theorem v_lsub {x y : Int64} (q : Nat) (hF : FX X G sh nL cc own ret rm) (hd : decode cc pc = .ok (.lsub, 1)) (hq : pc + 1 = q) (k : VR X G sh nL rv M q lo (.long (x - y) :: st) e) : VR X G sh nL rv M pc lo (.long y :: .long x :: st) e := by
  obtain ⟨p, l, en, R, s, m, args, below, meth, c⟩ := X
  subst hq
  intro r M' he H locs ls hP hD hS hl
  obtain ⟨hx, hb, hown, hts, hK, hml, hr, hlk, hR, hXT⟩ := hF
  exact lv_lsub hx hb hd (k r M' he H locs ls hP hD hS hl)
theorem v_lmul {x y : Int64} (q : Nat) (hF : FX X G sh nL cc own ret rm) (hd : decode cc pc = .ok (.lmul, 1)) (hq : pc + 1 = q) (k : VR X G sh nL rv M q lo (.long (x * y) :: st) e) : VR X G sh nL rv M pc lo (.long y :: .long x :: st) e := by
  obtain ⟨p, l, en, R, s, m, args, below, meth, c⟩ := X
  subst hq
  intro r M' he H locs ls hP hD hS hl
  obtain ⟨hx, hb, hown, hts, hK, hml, hr, hlk, hR, hXT⟩ := hF
  exact lv_lmul hx hb hd (k r M' he H locs ls hP hD hS hl)
theorem v_iushr {x y : Int32} (q : Nat) (hF : FX X G sh nL cc own ret rm) (hd : decode cc pc = .ok (.iushr, 1)) (hq : pc + 1 = q) (k : VR X G sh nL rv M q lo (.int (ushr x y) :: st) e) : VR X G sh nL rv M pc lo (.int y :: .int x :: st) e := by
  obtain ⟨p, l, en, R, s, m, args, below, meth, c⟩ := X
  subst hq
  intro r M' he H locs ls hP hD hS hl
  obtain ⟨hx, hb, hown, hts, hK, hml, hr, hlk, hR, hXT⟩ := hF
  exact lv_iushr hx hb hd rfl (k r M' he H locs ls hP hD hS hl)
theorem v_ineg {x : Int32} (q : Nat) (hF : FX X G sh nL cc own ret rm) (hd : decode cc pc = .ok (.ineg, 1)) (hq : pc + 1 = q) (k : VR X G sh nL rv M q lo (.int (-x) :: st) e) : VR X G sh nL rv M pc lo (.int x :: st) e := by
  obtain ⟨p, l, en, R, s, m, args, below, meth, c⟩ := X
  subst hq
  intro r M' he H locs ls hP hD hS hl
  obtain ⟨hx, hb, hown, hts, hK, hml, hr, hlk, hR, hXT⟩ := hF
  exact lv_ineg hx hb hd (k r M' he H locs ls hP hD hS hl)
theorem v_lcmp {x y : Int64} (q : Nat) (hF : FX X G sh nL cc own ret rm) (hd : decode cc pc = .ok (.lcmp, 1)) (hq : pc + 1 = q) (k : VR X G sh nL rv M q lo (.int (lg_cmp x y) :: st) e) : VR X G sh nL rv M pc lo (.long y :: .long x :: st) e := by
  obtain ⟨p, l, en, R, s, m, args, below, meth, c⟩ := X
  subst hq
  intro r M' he H locs ls hP hD hS hl
  obtain ⟨hx, hb, hown, hts, hK, hml, hr, hlk, hR, hXT⟩ := hF
  exact W.lcmp hx hb hd (k r M' he H locs ls hP hD hS hl)
theorem v_idiv {x y : Int32} (q : Nat) (hF : FX X G sh nL cc own ret rm) (hd : decode cc pc = .ok (.idiv, 1)) (hq : pc + 1 = q) (k : VR X G sh nL rv M q lo (.int (x / y) :: st) e) : VR X G sh nL rv M pc lo (.int y :: .int x :: st) (gd (!(decide (y = 0))) e) := by
  refine v_gd (fun hy => ?_)
  have hy : ¬ y = 0 := by simpa using hy
  obtain ⟨p, l, en, R, s, m, args, below, meth, c⟩ := X
  subst hq
  intro r M' he H locs ls hP hD hS hl
  obtain ⟨hx, hb, hown, hts, hK, hml, hr, hlk, hR, hXT⟩ := hF
  exact lv_idiv hx hb hd hy (k r M' he H locs ls hP hD hS hl)
theorem v_irem {x y : Int32} (q : Nat) (hF : FX X G sh nL cc own ret rm) (hd : decode cc pc = .ok (.irem, 1)) (hq : pc + 1 = q) (k : VR X G sh nL rv M q lo (.int (irm x y) :: st) e) : VR X G sh nL rv M pc lo (.int y :: .int x :: st) (gd (!(decide (y = 0))) e) := by
  refine v_gd (fun hy => ?_)
  have hy : ¬ y = 0 := by simpa using hy
  obtain ⟨p, l, en, R, s, m, args, below, meth, c⟩ := X
  subst hq
  intro r M' he H locs ls hP hD hS hl
  obtain ⟨hx, hb, hown, hts, hK, hml, hr, hlk, hR, hXT⟩ := hF
  exact lv_irem hx hb hd hy (k r M' he H locs ls hP hD hS hl)
theorem v_ldiv {x y : Int64} (q : Nat) (hF : FX X G sh nL cc own ret rm) (hd : decode cc pc = .ok (.ldiv, 1)) (hq : pc + 1 = q) (k : VR X G sh nL rv M q lo (.long (x / y) :: st) e) : VR X G sh nL rv M pc lo (.long y :: .long x :: st) (gd (!(decide (y = 0))) e) := by
  refine v_gd (fun hy => ?_)
  have hy : ¬ y = 0 := by simpa using hy
  obtain ⟨p, l, en, R, s, m, args, below, meth, c⟩ := X
  subst hq
  intro r M' he H locs ls hP hD hS hl
  obtain ⟨hx, hb, hown, hts, hK, hml, hr, hlk, hR, hXT⟩ := hF
  exact lv_ldiv hx hb hd hy (k r M' he H locs ls hP hD hS hl)
theorem v_lrem {x y : Int64} (q : Nat) (hF : FX X G sh nL cc own ret rm) (hd : decode cc pc = .ok (.lrem, 1)) (hq : pc + 1 = q) (k : VR X G sh nL rv M q lo (.long (lrm x y) :: st) e) : VR X G sh nL rv M pc lo (.long y :: .long x :: st) (gd (!(decide (y = 0))) e) := by
  refine v_gd (fun hy => ?_)
  have hy : ¬ y = 0 := by simpa using hy
  obtain ⟨p, l, en, R, s, m, args, below, meth, c⟩ := X
  subst hq
  intro r M' he H locs ls hP hD hS hl
  obtain ⟨hx, hb, hown, hts, hK, hml, hr, hlk, hR, hXT⟩ := hF
  exact lv_lrem hx hb hd hy (k r M' he H locs ls hP hD hS hl)
theorem v_i2l {x : Int32} (q : Nat) (hF : FX X G sh nL cc own ret rm) (hd : decode cc pc = .ok (.i2l, 1)) (hq : pc + 1 = q) (k : VR X G sh nL rv M q lo (.long x.toInt64 :: st) e) : VR X G sh nL rv M pc lo (.int x :: st) e := by
  obtain ⟨p, l, en, R, s, m, args, below, meth, c⟩ := X
  subst hq
  intro r M' he H locs ls hP hD hS hl
  obtain ⟨hx, hb, hown, hts, hK, hml, hr, hlk, hR, hXT⟩ := hF
  exact lv_i2l hx hb hd rfl (k r M' he H locs ls hP hD hS hl)
theorem v_l2i {x : Int64} (q : Nat) (hF : FX X G sh nL cc own ret rm) (hd : decode cc pc = .ok (.l2i, 1)) (hq : pc + 1 = q) (k : VR X G sh nL rv M q lo (.int x.toInt32 :: st) e) : VR X G sh nL rv M pc lo (.long x :: st) e := by
  obtain ⟨p, l, en, R, s, m, args, below, meth, c⟩ := X
  subst hq
  intro r M' he H locs ls hP hD hS hl
  obtain ⟨hx, hb, hown, hts, hK, hml, hr, hlk, hR, hXT⟩ := hF
  exact lv_l2i hx hb hd rfl (k r M' he H locs ls hP hD hS hl)
theorem v_i2b {x : Int32} (q : Nat) (hF : FX X G sh nL cc own ret rm) (hd : decode cc pc = .ok (.i2b, 1)) (hq : pc + 1 = q) (k : VR X G sh nL rv M q lo (.int x.toInt8.toInt32 :: st) e) : VR X G sh nL rv M pc lo (.int x :: st) e := by
  obtain ⟨p, l, en, R, s, m, args, below, meth, c⟩ := X
  subst hq
  intro r M' he H locs ls hP hD hS hl
  obtain ⟨hx, hb, hown, hts, hK, hml, hr, hlk, hR, hXT⟩ := hF
  exact lv_i2b hx hb hd rfl (k r M' he H locs ls hP hD hS hl)
theorem v_i2s {x : Int32} (q : Nat) (hF : FX X G sh nL cc own ret rm) (hd : decode cc pc = .ok (.i2s, 1)) (hq : pc + 1 = q) (k : VR X G sh nL rv M q lo (.int x.toInt16.toInt32 :: st) e) : VR X G sh nL rv M pc lo (.int x :: st) e := by
  obtain ⟨p, l, en, R, s, m, args, below, meth, c⟩ := X
  subst hq
  intro r M' he H locs ls hP hD hS hl
  obtain ⟨hx, hb, hown, hts, hK, hml, hr, hlk, hR, hXT⟩ := hF
  exact lv_i2s hx hb hd rfl (k r M' he H locs ls hP hD hS hl)
theorem v_dupI {x : Int32} (q : Nat) (hF : FX X G sh nL cc own ret rm) (hd : decode cc pc = .ok (.dup, 1)) (hq : pc + 1 = q) (k : VR X G sh nL rv M q lo (.int x :: .int x :: st) e) : VR X G sh nL rv M pc lo (.int x :: st) e := by
  obtain ⟨p, l, en, R, s, m, args, below, meth, c⟩ := X
  subst hq
  intro r M' he H locs ls hP hD hS hl
  obtain ⟨hx, hb, hown, hts, hK, hml, hr, hlk, hR, hXT⟩ := hF
  exact lv_dup hx hb hd rfl (k r M' he H locs ls hP hD hS hl)
theorem v_popI {x : Int32} (q : Nat) (hF : FX X G sh nL cc own ret rm) (hd : decode cc pc = .ok (.pop, 1)) (hq : pc + 1 = q) (k : VR X G sh nL rv M q lo st e) : VR X G sh nL rv M pc lo (.int x :: st) e := by
  obtain ⟨p, l, en, R, s, m, args, below, meth, c⟩ := X
  subst hq
  intro r M' he H locs ls hP hD hS hl
  obtain ⟨hx, hb, hown, hts, hK, hml, hr, hlk, hR, hXT⟩ := hF
  exact lv_pop hx hb hd rfl (k r M' he H locs ls hP hD hS hl)
theorem v_dupR {x : Nat} (q : Nat) (hF : FX X G sh nL cc own ret rm) (hd : decode cc pc = .ok (.dup, 1)) (hq : pc + 1 = q) (k : VR X G sh nL rv M q lo (.ref x :: .ref x :: st) e) : VR X G sh nL rv M pc lo (.ref x :: st) e := by
  obtain ⟨p, l, en, R, s, m, args, below, meth, c⟩ := X
  subst hq
  intro r M' he H locs ls hP hD hS hl
  obtain ⟨hx, hb, hown, hts, hK, hml, hr, hlk, hR, hXT⟩ := hF
  exact lv_dup hx hb hd rfl (k r M' he H locs ls hP hD hS hl)
theorem v_popR {x : Nat} (q : Nat) (hF : FX X G sh nL cc own ret rm) (hd : decode cc pc = .ok (.pop, 1)) (hq : pc + 1 = q) (k : VR X G sh nL rv M q lo st e) : VR X G sh nL rv M pc lo (.ref x :: st) e := by
  obtain ⟨p, l, en, R, s, m, args, below, meth, c⟩ := X
  subst hq
  intro r M' he H locs ls hP hD hS hl
  obtain ⟨hx, hb, hown, hts, hK, hml, hr, hlk, hR, hXT⟩ := hF
  exact lv_pop hx hb hd rfl (k r M' he H locs ls hP hD hS hl)
theorem v_dup2 {x : Int32} {a : Nat} (q : Nat) (hF : FX X G sh nL cc own ret rm) (hd : decode cc pc = .ok (.dup2, 1)) (hq : pc + 1 = q) (k : VR X G sh nL rv M q lo (.int x :: .ref a :: .int x :: .ref a :: st) e) : VR X G sh nL rv M pc lo (.int x :: .ref a :: st) e := by
  obtain ⟨p, l, en, R, s, m, args, below, meth, c⟩ := X
  subst hq
  intro r M' he H locs ls hP hD hS hl
  obtain ⟨hx, hb, hown, hts, hK, hml, hr, hlk, hR, hXT⟩ := hF
  exact lv_dup2_11 hx hb hd rfl rfl (k r M' he H locs ls hP hD hS hl)
theorem v_icmp_eq {x y : Int32} {off : Int} {e1 e2 : Option (α × Mm)} (q t : Nat) (hF : FX X G sh nL cc own ret rm) (hd : decode cc pc = .ok (.if_icmp .eq off, 3)) (hq : pc + 3 = q) (ht : (pc : Int) + off = (t : Int)) (kt : x = y → VR X G sh nL rv M t lo st e1) (kf : ¬ x = y → VR X G sh nL rv M q lo st e2) : VR X G sh nL rv M pc lo (.int y :: .int x :: st) (if x = y then e1 else e2) := by
  by_cases hc : x = y
  · rw [if_pos hc]
    obtain ⟨p, l, en, R, s, m, args, below, meth, c⟩ := X
    subst hq
    intro r M' he H locs ls hP hD hS hl
    obtain ⟨hx, hb, hown, hts, hK, hml, hr, hlk, hR, hXT⟩ := hF
    exact lv_icmp_eq hx hb hd ht (fun h => kt h r M' he H locs ls hP hD hS hl) (fun h => absurd hc h)
  · rw [if_neg hc]
    obtain ⟨p, l, en, R, s, m, args, below, meth, c⟩ := X
    subst hq
    intro r M' he H locs ls hP hD hS hl
    obtain ⟨hx, hb, hown, hts, hK, hml, hr, hlk, hR, hXT⟩ := hF
    exact lv_icmp_eq hx hb hd ht (fun h => absurd h hc) (fun h => kf h r M' he H locs ls hP hD hS hl)
theorem v_if_eq {x : Int32} {off : Int} {e1 e2 : Option (α × Mm)} (q t : Nat) (hF : FX X G sh nL cc own ret rm) (hd : decode cc pc = .ok (.ifCond .eq off, 3)) (hq : pc + 3 = q) (ht : (pc : Int) + off = (t : Int)) (kt : x = 0 → VR X G sh nL rv M t lo st e1) (kf : ¬ x = 0 → VR X G sh nL rv M q lo st e2) : VR X G sh nL rv M pc lo (.int x :: st) (if x = 0 then e1 else e2) := by
  by_cases hc : x = 0
  · rw [if_pos hc]
    obtain ⟨p, l, en, R, s, m, args, below, meth, c⟩ := X
    subst hq
    intro r M' he H locs ls hP hD hS hl
    obtain ⟨hx, hb, hown, hts, hK, hml, hr, hlk, hR, hXT⟩ := hF
    exact lv_if_eq hx hb hd ht (fun h => kt h r M' he H locs ls hP hD hS hl) (fun h => absurd hc h)
  · rw [if_neg hc]
    obtain ⟨p, l, en, R, s, m, args, below, meth, c⟩ := X
    subst hq
    intro r M' he H locs ls hP hD hS hl
    obtain ⟨hx, hb, hown, hts, hK, hml, hr, hlk, hR, hXT⟩ := hF
    exact lv_if_eq hx hb hd ht (fun h => absurd h hc) (fun h => kf h r M' he H locs ls hP hD hS hl)
theorem v_icmp_ne {x y : Int32} {off : Int} {e1 e2 : Option (α × Mm)} (q t : Nat) (hF : FX X G sh nL cc own ret rm) (hd : decode cc pc = .ok (.if_icmp .ne off, 3)) (hq : pc + 3 = q) (ht : (pc : Int) + off = (t : Int)) (kt : ¬ x = y → VR X G sh nL rv M t lo st e2) (kf : x = y → VR X G sh nL rv M q lo st e1) : VR X G sh nL rv M pc lo (.int y :: .int x :: st) (if x = y then e1 else e2) := by
  by_cases hc : x = y
  · rw [if_pos hc]
    obtain ⟨p, l, en, R, s, m, args, below, meth, c⟩ := X
    subst hq
    intro r M' he H locs ls hP hD hS hl
    obtain ⟨hx, hb, hown, hts, hK, hml, hr, hlk, hR, hXT⟩ := hF
    exact lv_icmp_ne hx hb hd ht (fun h => absurd hc h) (fun h => kf h r M' he H locs ls hP hD hS hl)
  · rw [if_neg hc]
    obtain ⟨p, l, en, R, s, m, args, below, meth, c⟩ := X
    subst hq
    intro r M' he H locs ls hP hD hS hl
    obtain ⟨hx, hb, hown, hts, hK, hml, hr, hlk, hR, hXT⟩ := hF
    exact lv_icmp_ne hx hb hd ht (fun h => kt h r M' he H locs ls hP hD hS hl) (fun h => absurd h hc)
theorem v_if_ne {x : Int32} {off : Int} {e1 e2 : Option (α × Mm)} (q t : Nat) (hF : FX X G sh nL cc own ret rm) (hd : decode cc pc = .ok (.ifCond .ne off, 3)) (hq : pc + 3 = q) (ht : (pc : Int) + off = (t : Int)) (kt : ¬ x = 0 → VR X G sh nL rv M t lo st e2) (kf : x = 0 → VR X G sh nL rv M q lo st e1) : VR X G sh nL rv M pc lo (.int x :: st) (if x = 0 then e1 else e2) := by
  by_cases hc : x = 0
  · rw [if_pos hc]
    obtain ⟨p, l, en, R, s, m, args, below, meth, c⟩ := X
    subst hq
    intro r M' he H locs ls hP hD hS hl
    obtain ⟨hx, hb, hown, hts, hK, hml, hr, hlk, hR, hXT⟩ := hF
    exact lv_if_ne hx hb hd ht (fun h => absurd hc h) (fun h => kf h r M' he H locs ls hP hD hS hl)
  · rw [if_neg hc]
    obtain ⟨p, l, en, R, s, m, args, below, meth, c⟩ := X
    subst hq
    intro r M' he H locs ls hP hD hS hl
    obtain ⟨hx, hb, hown, hts, hK, hml, hr, hlk, hR, hXT⟩ := hF
    exact lv_if_ne hx hb hd ht (fun h => kt h r M' he H locs ls hP hD hS hl) (fun h => absurd h hc)
theorem v_icmp_lt {x y : Int32} {off : Int} {e1 e2 : Option (α × Mm)} (q t : Nat) (hF : FX X G sh nL cc own ret rm) (hd : decode cc pc = .ok (.if_icmp .lt off, 3)) (hq : pc + 3 = q) (ht : (pc : Int) + off = (t : Int)) (kt : x < y → VR X G sh nL rv M t lo st e1) (kf : ¬ x < y → VR X G sh nL rv M q lo st e2) : VR X G sh nL rv M pc lo (.int y :: .int x :: st) (if x < y then e1 else e2) := by
  by_cases hc : x < y
  · rw [if_pos hc]
    obtain ⟨p, l, en, R, s, m, args, below, meth, c⟩ := X
    subst hq
    intro r M' he H locs ls hP hD hS hl
    obtain ⟨hx, hb, hown, hts, hK, hml, hr, hlk, hR, hXT⟩ := hF
    exact lv_icmp_lt hx hb hd ht (fun h => kt h r M' he H locs ls hP hD hS hl) (fun h => absurd hc h)
  · rw [if_neg hc]
    obtain ⟨p, l, en, R, s, m, args, below, meth, c⟩ := X
    subst hq
    intro r M' he H locs ls hP hD hS hl
    obtain ⟨hx, hb, hown, hts, hK, hml, hr, hlk, hR, hXT⟩ := hF
    exact lv_icmp_lt hx hb hd ht (fun h => absurd h hc) (fun h => kf h r M' he H locs ls hP hD hS hl)
theorem v_if_lt {x : Int32} {off : Int} {e1 e2 : Option (α × Mm)} (q t : Nat) (hF : FX X G sh nL cc own ret rm) (hd : decode cc pc = .ok (.ifCond .lt off, 3)) (hq : pc + 3 = q) (ht : (pc : Int) + off = (t : Int)) (kt : x < 0 → VR X G sh nL rv M t lo st e1) (kf : ¬ x < 0 → VR X G sh nL rv M q lo st e2) : VR X G sh nL rv M pc lo (.int x :: st) (if x < 0 then e1 else e2) := by
  by_cases hc : x < 0
  · rw [if_pos hc]
    obtain ⟨p, l, en, R, s, m, args, below, meth, c⟩ := X
    subst hq
    intro r M' he H locs ls hP hD hS hl
    obtain ⟨hx, hb, hown, hts, hK, hml, hr, hlk, hR, hXT⟩ := hF
    exact lv_if_lt hx hb hd ht (fun h => kt h r M' he H locs ls hP hD hS hl) (fun h => absurd hc h)
  · rw [if_neg hc]
    obtain ⟨p, l, en, R, s, m, args, below, meth, c⟩ := X
    subst hq
    intro r M' he H locs ls hP hD hS hl
    obtain ⟨hx, hb, hown, hts, hK, hml, hr, hlk, hR, hXT⟩ := hF
    exact lv_if_lt hx hb hd ht (fun h => absurd h hc) (fun h => kf h r M' he H locs ls hP hD hS hl)
theorem v_icmp_ge {x y : Int32} {off : Int} {e1 e2 : Option (α × Mm)} (q t : Nat) (hF : FX X G sh nL cc own ret rm) (hd : decode cc pc = .ok (.if_icmp .ge off, 3)) (hq : pc + 3 = q) (ht : (pc : Int) + off = (t : Int)) (kt : y ≤ x → VR X G sh nL rv M t lo st e1) (kf : ¬ y ≤ x → VR X G sh nL rv M q lo st e2) : VR X G sh nL rv M pc lo (.int y :: .int x :: st) (if y ≤ x then e1 else e2) := by
  by_cases hc : y ≤ x
  · rw [if_pos hc]
    obtain ⟨p, l, en, R, s, m, args, below, meth, c⟩ := X
    subst hq
    intro r M' he H locs ls hP hD hS hl
    obtain ⟨hx, hb, hown, hts, hK, hml, hr, hlk, hR, hXT⟩ := hF
    exact lv_icmp_ge hx hb hd ht (fun h => kt h r M' he H locs ls hP hD hS hl) (fun h => absurd hc h)
  · rw [if_neg hc]
    obtain ⟨p, l, en, R, s, m, args, below, meth, c⟩ := X
    subst hq
    intro r M' he H locs ls hP hD hS hl
    obtain ⟨hx, hb, hown, hts, hK, hml, hr, hlk, hR, hXT⟩ := hF
    exact lv_icmp_ge hx hb hd ht (fun h => absurd h hc) (fun h => kf h r M' he H locs ls hP hD hS hl)
theorem v_if_ge {x : Int32} {off : Int} {e1 e2 : Option (α × Mm)} (q t : Nat) (hF : FX X G sh nL cc own ret rm) (hd : decode cc pc = .ok (.ifCond .ge off, 3)) (hq : pc + 3 = q) (ht : (pc : Int) + off = (t : Int)) (kt : 0 ≤ x → VR X G sh nL rv M t lo st e1) (kf : ¬ 0 ≤ x → VR X G sh nL rv M q lo st e2) : VR X G sh nL rv M pc lo (.int x :: st) (if 0 ≤ x then e1 else e2) := by
  by_cases hc : 0 ≤ x
  · rw [if_pos hc]
    obtain ⟨p, l, en, R, s, m, args, below, meth, c⟩ := X
    subst hq
    intro r M' he H locs ls hP hD hS hl
    obtain ⟨hx, hb, hown, hts, hK, hml, hr, hlk, hR, hXT⟩ := hF
    exact lv_if_ge hx hb hd ht (fun h => kt h r M' he H locs ls hP hD hS hl) (fun h => absurd hc h)
  · rw [if_neg hc]
    obtain ⟨p, l, en, R, s, m, args, below, meth, c⟩ := X
    subst hq
    intro r M' he H locs ls hP hD hS hl
    obtain ⟨hx, hb, hown, hts, hK, hml, hr, hlk, hR, hXT⟩ := hF
    exact lv_if_ge hx hb hd ht (fun h => absurd h hc) (fun h => kf h r M' he H locs ls hP hD hS hl)
theorem v_icmp_gt {x y : Int32} {off : Int} {e1 e2 : Option (α × Mm)} (q t : Nat) (hF : FX X G sh nL cc own ret rm) (hd : decode cc pc = .ok (.if_icmp .gt off, 3)) (hq : pc + 3 = q) (ht : (pc : Int) + off = (t : Int)) (kt : y < x → VR X G sh nL rv M t lo st e1) (kf : ¬ y < x → VR X G sh nL rv M q lo st e2) : VR X G sh nL rv M pc lo (.int y :: .int x :: st) (if y < x then e1 else e2) := by
  by_cases hc : y < x
  · rw [if_pos hc]
    obtain ⟨p, l, en, R, s, m, args, below, meth, c⟩ := X
    subst hq
    intro r M' he H locs ls hP hD hS hl
    obtain ⟨hx, hb, hown, hts, hK, hml, hr, hlk, hR, hXT⟩ := hF
    exact lv_icmp_gt hx hb hd ht (fun h => kt h r M' he H locs ls hP hD hS hl) (fun h => absurd hc h)
  · rw [if_neg hc]
    obtain ⟨p, l, en, R, s, m, args, below, meth, c⟩ := X
    subst hq
    intro r M' he H locs ls hP hD hS hl
    obtain ⟨hx, hb, hown, hts, hK, hml, hr, hlk, hR, hXT⟩ := hF
    exact lv_icmp_gt hx hb hd ht (fun h => absurd h hc) (fun h => kf h r M' he H locs ls hP hD hS hl)
theorem v_if_gt {x : Int32} {off : Int} {e1 e2 : Option (α × Mm)} (q t : Nat) (hF : FX X G sh nL cc own ret rm) (hd : decode cc pc = .ok (.ifCond .gt off, 3)) (hq : pc + 3 = q) (ht : (pc : Int) + off = (t : Int)) (kt : 0 < x → VR X G sh nL rv M t lo st e1) (kf : ¬ 0 < x → VR X G sh nL rv M q lo st e2) : VR X G sh nL rv M pc lo (.int x :: st) (if 0 < x then e1 else e2) := by
  by_cases hc : 0 < x
  · rw [if_pos hc]
    obtain ⟨p, l, en, R, s, m, args, below, meth, c⟩ := X
    subst hq
    intro r M' he H locs ls hP hD hS hl
    obtain ⟨hx, hb, hown, hts, hK, hml, hr, hlk, hR, hXT⟩ := hF
    exact lv_if_gt hx hb hd ht (fun h => kt h r M' he H locs ls hP hD hS hl) (fun h => absurd hc h)
  · rw [if_neg hc]
    obtain ⟨p, l, en, R, s, m, args, below, meth, c⟩ := X
    subst hq
    intro r M' he H locs ls hP hD hS hl
    obtain ⟨hx, hb, hown, hts, hK, hml, hr, hlk, hR, hXT⟩ := hF
    exact lv_if_gt hx hb hd ht (fun h => absurd h hc) (fun h => kf h r M' he H locs ls hP hD hS hl)
theorem v_icmp_le {x y : Int32} {off : Int} {e1 e2 : Option (α × Mm)} (q t : Nat) (hF : FX X G sh nL cc own ret rm) (hd : decode cc pc = .ok (.if_icmp .le off, 3)) (hq : pc + 3 = q) (ht : (pc : Int) + off = (t : Int)) (kt : x ≤ y → VR X G sh nL rv M t lo st e1) (kf : ¬ x ≤ y → VR X G sh nL rv M q lo st e2) : VR X G sh nL rv M pc lo (.int y :: .int x :: st) (if x ≤ y then e1 else e2) := by
  by_cases hc : x ≤ y
  · rw [if_pos hc]
    obtain ⟨p, l, en, R, s, m, args, below, meth, c⟩ := X
    subst hq
    intro r M' he H locs ls hP hD hS hl
    obtain ⟨hx, hb, hown, hts, hK, hml, hr, hlk, hR, hXT⟩ := hF
    exact lv_icmp_le hx hb hd ht (fun h => kt h r M' he H locs ls hP hD hS hl) (fun h => absurd hc h)
  · rw [if_neg hc]
    obtain ⟨p, l, en, R, s, m, args, below, meth, c⟩ := X
    subst hq
    intro r M' he H locs ls hP hD hS hl
    obtain ⟨hx, hb, hown, hts, hK, hml, hr, hlk, hR, hXT⟩ := hF
    exact lv_icmp_le hx hb hd ht (fun h => absurd h hc) (fun h => kf h r M' he H locs ls hP hD hS hl)
theorem v_if_le {x : Int32} {off : Int} {e1 e2 : Option (α × Mm)} (q t : Nat) (hF : FX X G sh nL cc own ret rm) (hd : decode cc pc = .ok (.ifCond .le off, 3)) (hq : pc + 3 = q) (ht : (pc : Int) + off = (t : Int)) (kt : x ≤ 0 → VR X G sh nL rv M t lo st e1) (kf : ¬ x ≤ 0 → VR X G sh nL rv M q lo st e2) : VR X G sh nL rv M pc lo (.int x :: st) (if x ≤ 0 then e1 else e2) := by
  by_cases hc : x ≤ 0
  · rw [if_pos hc]
    obtain ⟨p, l, en, R, s, m, args, below, meth, c⟩ := X
    subst hq
    intro r M' he H locs ls hP hD hS hl
    obtain ⟨hx, hb, hown, hts, hK, hml, hr, hlk, hR, hXT⟩ := hF
    exact lv_if_le hx hb hd ht (fun h => kt h r M' he H locs ls hP hD hS hl) (fun h => absurd hc h)
  · rw [if_neg hc]
    obtain ⟨p, l, en, R, s, m, args, below, meth, c⟩ := X
    subst hq
    intro r M' he H locs ls hP hD hS hl
    obtain ⟨hx, hb, hown, hts, hK, hml, hr, hlk, hR, hXT⟩ := hF
    exact lv_if_le hx hb hd ht (fun h => absurd h hc) (fun h => kf h r M' he H locs ls hP hD hS hl)
theorem v_goto {off : Int} (t : Nat) (hF : FX X G sh nL cc own ret rm) (hd : decode cc pc = .ok (.goto off, 3)) (ht : (pc : Int) + off = (t : Int)) (k : VR X G sh nL rv M t lo st e) : VR X G sh nL rv M pc lo st e := by
  obtain ⟨p, l, en, R, s, m, args, below, meth, c⟩ := X
  intro r M' he H locs ls hP hD hS hl
  obtain ⟨hx, hb, hown, hts, hK, hml, hr, hlk, hR, hXT⟩ := hF
  exact lv_goto hx hb hd ht (k r M' he H locs ls hP hD hS hl)
theorem v_ifnullR {a : Nat} {off : Int} (q : Nat) (hF : FX X G sh nL cc own ret rm) (hd : decode cc pc = .ok (.ifnull off, 3)) (hq : pc + 3 = q) (k : VR X G sh nL rv M q lo st e) : VR X G sh nL rv M pc lo (.ref a :: st) e := by
  obtain ⟨p, l, en, R, s, m, args, below, meth, c⟩ := X
  subst hq
  intro r M' he H locs ls hP hD hS hl
  obtain ⟨hx, hb, hown, hts, hK, hml, hr, hlk, hR, hXT⟩ := hF
  exact lv_ifnull hx hb hd (k r M' he H locs ls hP hD hS hl)
theorem v_ifnonnullN {off : Int} (q : Nat) (hF : FX X G sh nL cc own ret rm) (hd : decode cc pc = .ok (.ifnonnull off, 3)) (hq : pc + 3 = q) (k : VR X G sh nL rv M q lo st e) : VR X G sh nL rv M pc lo (.null :: st) e := by
  obtain ⟨p, l, en, R, s, m, args, below, meth, c⟩ := X
  subst hq
  intro r M' he H locs ls hP hD hS hl
  obtain ⟨hx, hb, hown, hts, hK, hml, hr, hlk, hR, hXT⟩ := hF
  exact lv_ifnonnullN hx hb hd (k r M' he H locs ls hP hD hS hl)
theorem v_ifnullN {off : Int} (t : Nat) (hF : FX X G sh nL cc own ret rm) (hd : decode cc pc = .ok (.ifnull off, 3)) (ht : (pc : Int) + off = (t : Int)) (k : VR X G sh nL rv M t lo st e) : VR X G sh nL rv M pc lo (.null :: st) e := by
  obtain ⟨p, l, en, R, s, m, args, below, meth, c⟩ := X
  intro r M' he H locs ls hP hD hS hl
  obtain ⟨hx, hb, hown, hts, hK, hml, hr, hlk, hR, hXT⟩ := hF
  exact lv_ifnullN hx hb hd ht (k r M' he H locs ls hP hD hS hl)
theorem v_ifnonnullR {a : Nat} {off : Int} (t : Nat) (hF : FX X G sh nL cc own ret rm) (hd : decode cc pc = .ok (.ifnonnull off, 3)) (ht : (pc : Int) + off = (t : Int)) (k : VR X G sh nL rv M t lo st e) : VR X G sh nL rv M pc lo (.ref a :: st) e := by
  obtain ⟨p, l, en, R, s, m, args, below, meth, c⟩ := X
  intro r M' he H locs ls hP hD hS hl
  obtain ⟨hx, hb, hown, hts, hK, hml, hr, hlk, hR, hXT⟩ := hF
  exact lv_ifnonnull hx hb hd ht (k r M' he H locs ls hP hD hS hl)
theorem v_tsIn {dflt lo1 hi1 : Int} {offs : Array Int} {len : Nat} {x : Int32} (w : Int32) (off : Int) (t : Nat) (hF : FX X G sh nL cc own ret rm) (hd : decode cc pc = .ok (.tableswitch dflt lo1 hi1 offs, len)) (hw : x = w) (hl1 : (decide (lo1 ≤ w.toInt) && decide (w.toInt ≤ hi1)) = true) (ho : offs[(w.toInt - lo1).toNat]? = some off) (ht : (pc : Int) + off = (t : Int)) (k : VR X G sh nL rv M t lo st e) : VR X G sh nL rv M pc lo (.int x :: st) e := by
  obtain ⟨p, l, en, R, s, m, args, below, meth, c⟩ := X
  intro r M' he H locs ls hP hD hS hl
  obtain ⟨hx, hb, hown, hts, hK, hml, hr, hlk, hR, hXT⟩ := hF
  subst hw
  simp only [Bool.and_eq_true, decide_eq_true_eq] at hl1
  exact lv_tableIn hx hb hd (by omega) (by omega) ho ht (k r M' he H locs ls hP hD hS hl)
theorem v_tsOut {dflt lo1 hi1 : Int} {offs : Array Int} {len : Nat} {x : Int32} (t : Nat) (hF : FX X G sh nL cc own ret rm) (hd : decode cc pc = .ok (.tableswitch dflt lo1 hi1 offs, len)) (hw : x.toInt < lo1 ∨ hi1 < x.toInt) (ht : (pc : Int) + dflt = (t : Int)) (k : VR X G sh nL rv M t lo st e) : VR X G sh nL rv M pc lo (.int x :: st) e := by
  obtain ⟨p, l, en, R, s, m, args, below, meth, c⟩ := X
  intro r M' he H locs ls hP hD hS hl
  obtain ⟨hx, hb, hown, hts, hK, hml, hr, hlk, hR, hXT⟩ := hF
  exact lv_tableOut hx hb hd hw ht (k r M' he H locs ls hP hD hS hl)
theorem v_lks {dflt : Int} {ps : Array (Int × Int)} {len : Nat} {x : Int32} (off : Int) (t : Nat) (hF : FX X G sh nL cc own ret rm) (hd : decode cc pc = .ok (.lookupswitch dflt ps, len)) (hp : (ps.toList.zip (ps.toList.drop 1)).all (fun (a, next) => a.1 < next.1) = true) (ho : Op.lookupswitch.offset ps.toList dflt x.toInt = off) (ht : (pc : Int) + off = (t : Int)) (k : VR X G sh nL rv M t lo st e) : VR X G sh nL rv M pc lo (.int x :: st) e := by
  obtain ⟨p, l, en, R, s, m, args, below, meth, c⟩ := X
  intro r M' he H locs ls hP hD hS hl
  obtain ⟨hx, hb, hown, hts, hK, hml, hr, hlk, hR, hXT⟩ := hF
  exact lv_lookup hx hb hd hp ho ht (k r M' he H locs ls hP hD hS hl)
theorem v_ite {c : Prop} [Decidable c] {e1 e2 : Option (α × Mm)} (h1 : c → VR X G sh nL rv M pc lo st e1) (h2 : ¬ c → VR X G sh nL rv M pc lo st e2) : VR X G sh nL rv M pc lo st (if c then e1 else e2) := by
  by_cases hc : c
  · rw [if_pos hc]; exact h1 hc
  · rw [if_neg hc]; exact h2 hc
/-- a field at a place of a method: which class, which slot, and that the link is among the words -/
def FLd (own : String) (idx ci j : Nat) : Prop := ∃ (C : String) (T : u_T) (N : Nat), vwCl[ci]? = some (C, T, N) ∧ j < N ∧ (∀ w ∈ u_ws C T N, w ∈ gT) ∧ (T j).1 = C ∧ Cond.fieldLink own idx C (T j).2.1 (T j).2.2.1 ∈ gT
theorem v_getI {idx ci j a : Nat} {ts : List Nat} (q : Nat) (hF : FX X G sh nL cc own ret rm) (hd : decode cc pc = .ok (.getfield idx, 3)) (hq : pc + 3 = q) (hf : FLd own idx ci j) (hs : sh[a]? = some (.inr (ci, ts))) (ht : ts[j]? = some 0) (k : VR X G sh nL rv M q lo (.int (M a j) :: st) e) : VR X G sh nL rv M pc lo (.ref (G.2.2.2.2 a) :: st) e := by
  obtain ⟨p, l, en, R, s, m, args, below, meth, c⟩ := X
  subst hq
  intro r M' he H locs ls hP hD hS hl
  obtain ⟨hx, hb, hown, hts, hK, hml, hr, hlk, hR, hXT⟩ := hF
  obtain ⟨C, T, N, hc, hk, hin, hT, hlink⟩ := hf
  subst hT
  have hv : (ts.mapIdx (fun j t => cfv G M a j t))[j]? = some (.int (M a j)) := by simp [ht, cfv]
  exact va_get hx hb hts hin hown hK hP a (wl_get hs) hc j hk (hts _ hlink) (fun _ h9 => h9) hv hd (k r M' he H locs ls hP hD hS hl)
theorem v_getJ {idx ci j a : Nat} {ts : List Nat} (q : Nat) (hF : FX X G sh nL cc own ret rm) (hd : decode cc pc = .ok (.getfield idx, 3)) (hq : pc + 3 = q) (hf : FLd own idx ci j) (hs : sh[a]? = some (.inr (ci, ts))) (ht : ts[j]? = some 1) (k : VR X G sh nL rv M q lo (.long (M a j).toInt64 :: st) e) : VR X G sh nL rv M pc lo (.ref (G.2.2.2.2 a) :: st) e := by
  obtain ⟨p, l, en, R, s, m, args, below, meth, c⟩ := X
  subst hq
  intro r M' he H locs ls hP hD hS hl
  obtain ⟨hx, hb, hown, hts, hK, hml, hr, hlk, hR, hXT⟩ := hF
  obtain ⟨C, T, N, hc, hk, hin, hT, hlink⟩ := hf
  subst hT
  have hv : (ts.mapIdx (fun j t => cfv G M a j t))[j]? = some (.long (M a j).toInt64) := by simp [ht, cfv]
  exact va_get hx hb hts hin hown hK hP a (wl_get hs) hc j hk (hts _ hlink) (fun _ h9 => h9) hv hd (k r M' he H locs ls hP hD hS hl)
theorem v_getR {idx ci j a b : Nat} {ts : List Nat} (q : Nat) (hF : FX X G sh nL cc own ret rm) (hd : decode cc pc = .ok (.getfield idx, 3)) (hq : pc + 3 = q) (hf : FLd own idx ci j) (hs : sh[a]? = some (.inr (ci, ts))) (ht : ts[j]? = some (b + 2)) (k : VR X G sh nL rv M q lo (.ref (G.2.2.2.2 b) :: st) e) : VR X G sh nL rv M pc lo (.ref (G.2.2.2.2 a) :: st) e := by
  obtain ⟨p, l, en, R, s, m, args, below, meth, c⟩ := X
  subst hq
  intro r M' he H locs ls hP hD hS hl
  obtain ⟨hx, hb, hown, hts, hK, hml, hr, hlk, hR, hXT⟩ := hF
  obtain ⟨C, T, N, hc, hk, hin, hT, hlink⟩ := hf
  subst hT
  have hv : (ts.mapIdx (fun j t => cfv G M a j t))[j]? = some (.ref (G.2.2.2.2 b)) := by simp [ht, cfv]
  exact va_get hx hb hts hin hown hK hP a (wl_get hs) hc j hk (hts _ hlink) (fun _ h9 => h9) hv hd (k r M' he H locs ls hP hD hS hl)
/-- a field that may be written: its class's tables, not final, of that type -/
def FPt (ci j : Nat) (ty : FieldType) : Prop := ∃ (C : String) (T : u_T) (N : Nat) (ty0 : Nat → FieldType), vwCl[ci]? = some (C, T, N) ∧ (∀ k, k < N → parseFieldDescriptor (T k).2.2.1 = some (ty0 k)) ∧ (∀ a, a < N → ∀ b, b < N → a ≠ b → (T a).2.1 ≠ (T b).2.1) ∧ (T j).2.2.2 = false ∧ parseFieldDescriptor (T j).2.2.1 = some ty
theorem v_putI {idx ci j a : Nat} {ts : List Nat} {x : Int32} {f : Mm → Option (α × Mm)} (q : Nat) (hF : FX X G sh nL cc own ret rm) (hd : decode cc pc = .ok (.putfield idx, 3)) (hq : pc + 3 = q) (hf : FLd own idx ci j) (hp : FPt ci j .int) (hs : sh[a]? = some (.inr (ci, ts))) (ht : ts[j]? = some 0) (k : ∀ M2, VR X G sh nL rv M2 q lo st (f M2)) : VR X G sh nL rv M pc lo (.int x :: .ref (G.2.2.2.2 a) :: st) (lt1 (up M a j x) f) := by
  obtain ⟨p, l, en, R, s, m, args, below, meth, c⟩ := X
  subst hq
  intro r M' he H locs ls hP hD hS hl
  obtain ⟨hx, hb, hown, hts, hK, hml, hr, hlk, hR, hXT⟩ := hF
  obtain ⟨C, T, N, hc, hk, hin, hT, hlink⟩ := hf
  obtain ⟨C', T', N', ty0, hc', hty, hnm, hfin, hpd⟩ := hp
  cases (hc.symm.trans hc')
  subst hT
  have hlen : j < (ts.mapIdx (fun j t => cfv G M a j t)).length := by rw [List.length_mapIdx]; exact (List.getElem?_eq_some_iff.mp ht).1
  refine va_put (ty := .int) hx hb hts hin ty0 hty hnm hown hK hP hD hS a (wl_get hs) hc j hk (hts _ hlink) (fun _ h9 => h9) hfin hpd rfl rfl hlen hd (fun H1 locs1 hP1 hD1 hS1 => ?_)
  rw [wl_setF hs ht] at hP1
  exact k _ r M' he H1 locs1 ls hP1 (wl_D hD) hS1 hl
theorem v_putZ {idx ci j a : Nat} {ts : List Nat} {x : Int32} {f : Mm → Option (α × Mm)} (q : Nat) (hF : FX X G sh nL cc own ret rm) (hd : decode cc pc = .ok (.putfield idx, 3)) (hq : pc + 3 = q) (hf : FLd own idx ci j) (hp : FPt ci j .boolean) (hs : sh[a]? = some (.inr (ci, ts))) (ht : ts[j]? = some 0) (hz : narrow .boolean (.int x) = .int x ∧ fits .boolean (.int x) = true) (k : ∀ M2, VR X G sh nL rv M2 q lo st (f M2)) : VR X G sh nL rv M pc lo (.int x :: .ref (G.2.2.2.2 a) :: st) (lt1 (up M a j x) f) := by
  obtain ⟨p, l, en, R, s, m, args, below, meth, c⟩ := X
  subst hq
  intro r M' he H locs ls hP hD hS hl
  obtain ⟨hx, hb, hown, hts, hK, hml, hr, hlk, hR, hXT⟩ := hF
  obtain ⟨C, T, N, hc, hk, hin, hT, hlink⟩ := hf
  obtain ⟨C', T', N', ty0, hc', hty, hnm, hfin, hpd⟩ := hp
  cases (hc.symm.trans hc')
  subst hT
  have hlen : j < (ts.mapIdx (fun j t => cfv G M a j t)).length := by rw [List.length_mapIdx]; exact (List.getElem?_eq_some_iff.mp ht).1
  refine va_put (ty := .boolean) hx hb hts hin ty0 hty hnm hown hK hP hD hS a (wl_get hs) hc j hk (hts _ hlink) (fun _ h9 => h9) hfin hpd hz.1 hz.2 hlen hd (fun H1 locs1 hP1 hD1 hS1 => ?_)
  rw [wl_setF hs ht] at hP1
  exact k _ r M' he H1 locs1 ls hP1 (wl_D hD) hS1 hl
theorem v_putJ0 {idx ci j a : Nat} {ts : List Nat} {x : Int64} {f : Mm → Option (α × Mm)} (q : Nat) (hF : FX X G sh nL cc own ret rm) (hd : decode cc pc = .ok (.putfield idx, 3)) (hq : pc + 3 = q) (hf : FLd own idx ci j) (hp : FPt ci j .long) (hs : sh[a]? = some (.inr (ci, ts))) (ht : ts[j]? = some 1) (hz : x.toInt32.toInt64 = x) (k : ∀ M2, VR X G sh nL rv M2 q lo st (f M2)) : VR X G sh nL rv M pc lo (.long x :: .ref (G.2.2.2.2 a) :: st) (lt1 (up M a j x.toInt32) f) := by
  obtain ⟨p, l, en, R, s, m, args, below, meth, c⟩ := X
  subst hq
  intro r M' he H locs ls hP hD hS hl
  obtain ⟨hx, hb, hown, hts, hK, hml, hr, hlk, hR, hXT⟩ := hF
  obtain ⟨C, T, N, hc, hk, hin, hT, hlink⟩ := hf
  obtain ⟨C', T', N', ty0, hc', hty, hnm, hfin, hpd⟩ := hp
  cases (hc.symm.trans hc')
  subst hT
  have hlen : j < (ts.mapIdx (fun j t => cfv G M a j t)).length := by rw [List.length_mapIdx]; exact (List.getElem?_eq_some_iff.mp ht).1
  refine va_put (ty := .long) hx hb hts hin ty0 hty hnm hown hK hP hD hS a (wl_get hs) hc j hk (hts _ hlink) (fun _ h9 => h9) hfin hpd rfl rfl hlen hd (fun H1 locs1 hP1 hD1 hS1 => ?_)
  rw [wl_setL hs ht hz] at hP1
  exact k _ r M' he H1 locs1 ls hP1 (wl_D hD) hS1 hl
theorem v_putJ {idx ci j a : Nat} {ts : List Nat} {x : Int64} {f : Mm → Option (α × Mm)} (q : Nat) (hF : FX X G sh nL cc own ret rm) (hd : decode cc pc = .ok (.putfield idx, 3)) (hq : pc + 3 = q) (hf : FLd own idx ci j) (hp : FPt ci j .long) (hs : sh[a]? = some (.inr (ci, ts))) (ht : ts[j]? = some 1) (k : ∀ M2, VR X G sh nL rv M2 q lo st (f M2)) : VR X G sh nL rv M pc lo (.long x :: .ref (G.2.2.2.2 a) :: st) (gd (decide (x.toInt32.toInt64 = x)) (lt1 (up M a j x.toInt32) f)) :=
  v_gd (fun h => v_putJ0 q hF hd hq hf hp hs ht (by simpa using h) k)
theorem v_iald {a n : Nat} {i : Int32} (q : Nat) (hF : FX X G sh nL cc own ret rm) (hd : decode cc pc = .ok (.iaload, 1)) (hq : pc + 1 = q) (hs : sh[a]? = some (.inl (0, n))) (k : VR X G sh nL rv M q lo (.int (M a i.toNatClampNeg) :: st) e) : VR X G sh nL rv M pc lo (.int i :: .ref (G.2.2.2.2 a) :: st) (gd (inr i n) e) := by
  refine v_gd (fun hi => ?_)
  obtain ⟨p, l, en, R, s, m, args, below, meth, c⟩ := X
  subst hq
  intro r M' he H locs ls hP hD hS hl
  obtain ⟨hx, hb, hown, hts, hK, hml, hr, hlk, hR, hXT⟩ := hF
  exact va_iald hx hb hK hP a 0 (wl_get hs) rfl (inr_in hi) hd (k r M' he H locs ls hP hD hS hl)
theorem v_zald {a n : Nat} {i : Int32} (q : Nat) (hF : FX X G sh nL cc own ret rm) (hd : decode cc pc = .ok (.baload, 1)) (hq : pc + 1 = q) (hs : sh[a]? = some (.inl (1, n))) (k : VR X G sh nL rv M q lo (.int (M a i.toNatClampNeg) :: st) e) : VR X G sh nL rv M pc lo (.int i :: .ref (G.2.2.2.2 a) :: st) (gd (inr i n) e) := by
  refine v_gd (fun hi => ?_)
  obtain ⟨p, l, en, R, s, m, args, below, meth, c⟩ := X
  subst hq
  intro r M' he H locs ls hP hD hS hl
  obtain ⟨hx, hb, hown, hts, hK, hml, hr, hlk, hR, hXT⟩ := hF
  exact va_zald hx hb hK hP a 1 (wl_get hs) rfl (inr_in hi) hd (k r M' he H locs ls hP hD hS hl)
theorem v_aald {a n b : Nat} {i : Int32} (q : Nat) (hF : FX X G sh nL cc own ret rm) (hd : decode cc pc = .ok (.aaload, 1)) (hq : pc + 1 = q) (hs : sh[a]? = some (.inl (b + 2, n))) (k : VR X G sh nL rv M q lo (.ref (G.2.2.2.2 (b + 2 * i.toNatClampNeg)) :: st) e) : VR X G sh nL rv M pc lo (.int i :: .ref (G.2.2.2.2 a) :: st) (gd (inr i n) e) := by
  refine v_gd (fun hi => ?_)
  obtain ⟨p, l, en, R, s, m, args, below, meth, c⟩ := X
  subst hq
  intro r M' he H locs ls hP hD hS hl
  obtain ⟨hx, hb, hown, hts, hK, hml, hr, hlk, hR, hXT⟩ := hF
  exact va_aldq (C := RX0) hx hb hK hP a 2 (wl_get hs) rfl (inr_in hi) hd (k r M' he H locs ls hP hD hS hl)
theorem v_alen {a n t : Nat} (v : Int32) (q : Nat) (hF : FX X G sh nL cc own ret rm) (hd : decode cc pc = .ok (.arraylength, 1)) (hq : pc + 1 = q) (hs : sh[a]? = some (.inl (t, n))) (ht : t = 0 ∨ ∃ b, t = b + 2) (hv : Int32.ofNat n = v) (k : VR X G sh nL rv M q lo (.int v :: st) e) : VR X G sh nL rv M pc lo (.ref (G.2.2.2.2 a) :: st) e := by
  obtain ⟨p, l, en, R, s, m, args, below, meth, c⟩ := X
  subst hq
  intro r M' he H locs ls hP hD hS hl
  obtain ⟨hx, hb, hown, hts, hK, hml, hr, hlk, hR, hXT⟩ := hF
  rcases ht with rfl | ⟨b, rfl⟩
  · exact va_alen hx hb hK hP a 0 (wl_get hs) rfl hv hd (k r M' he H locs ls hP hD hS hl)
  · exact va_alen hx hb hK hP a 2 (wl_get hs) rfl hv hd (k r M' he H locs ls hP hD hS hl)
theorem v_iast {a n : Nat} {i x : Int32} {f : Mm → Option (α × Mm)} (q : Nat) (hF : FX X G sh nL cc own ret rm) (hd : decode cc pc = .ok (.iastore, 1)) (hq : pc + 1 = q) (hs : sh[a]? = some (.inl (0, n))) (k : ∀ M2, VR X G sh nL rv M2 q lo st (f M2)) : VR X G sh nL rv M pc lo (.int x :: .int i :: .ref (G.2.2.2.2 a) :: st) (gd (inr i n) (lt1 (up M a i.toNatClampNeg x) f)) := by
  refine v_gd (fun hi => ?_)
  obtain ⟨p, l, en, R, s, m, args, below, meth, c⟩ := X
  subst hq
  intro r M' he H locs ls hP hD hS hl
  obtain ⟨hx, hb, hown, hts, hK, hml, hr, hlk, hR, hXT⟩ := hF
  refine va_iast hx hb hK hP hD hS a 0 (wl_get hs) rfl (inr_in hi) hd (fun H1 locs1 hP1 hD1 hS1 => ?_)
  rw [wl_setA hs] at hP1
  exact k _ r M' he H1 locs1 ls hP1 (wl_D hD) hS1 hl
theorem v_zast {a n : Nat} {i x : Int32} {f : Mm → Option (α × Mm)} (q : Nat) (hF : FX X G sh nL cc own ret rm) (hd : decode cc pc = .ok (.bastore, 1)) (hq : pc + 1 = q) (hs : sh[a]? = some (.inl (1, n))) (k : ∀ M2, VR X G sh nL rv M2 q lo st (f M2)) : VR X G sh nL rv M pc lo (.int x :: .int i :: .ref (G.2.2.2.2 a) :: st) (gd (inr i n) (lt1 (up M a i.toNatClampNeg (vp_nar .boolean x)) f)) := by
  refine v_gd (fun hi => ?_)
  obtain ⟨p, l, en, R, s, m, args, below, meth, c⟩ := X
  subst hq
  intro r M' he H locs ls hP hD hS hl
  obtain ⟨hx, hb, hown, hts, hK, hml, hr, hlk, hR, hXT⟩ := hF
  refine va_zast hx hb hK hP hD hS a 1 (wl_get hs) rfl (inr_in hi) hd (fun H1 locs1 hP1 hD1 hS1 => ?_)
  rw [wl_setZ hs] at hP1
  exact k _ r M' he H1 locs1 ls hP1 (wl_D hD) hS1 hl
theorem v_mmax {x y : Int32} {idx : Nat} (q : Nat) (hF : FX X G sh nL cc own ret rm) (hd : decode cc pc = .ok (.invokestatic idx, 3)) (hq : pc + 3 = q) (hw : Cond.methodLink own idx Lib.Math.max.name ∈ gT ∧ Cond.static Lib.Math.max.name ∈ gT ∧ Cond.initialized "java/lang/Math" ∈ gT ∧ Cond.code Lib.Math.max.name Lib.Math.max.code 2 (some .int) ∈ gT) (hrm : 1 ≤ rm.frames ∧ (st.map fun v => v.category).sum + 13 ≤ rm.locals) (k : VR X G sh nL rv M q lo (.int (mmax x y) :: st) e) : VR X G sh nL rv M pc lo (.int y :: .int x :: st) e := by
  obtain ⟨p, l, en, R, s, m, args, below, meth, c⟩ := X
  subst hq
  intro r M' he H locs ls hP hD hS hl
  obtain ⟨hx, hb, hown, hts, hK, hml, hr, hlk, hR, hXT⟩ := hF
  subst hR
  obtain ⟨w1, w2, w3, w4⟩ := hw
  exact va_mmax hx hb (hml.trans hl.1.symm) hown (hts _ w1) (hts _ w2) (hts _ w3) (hts _ w4) hrm.1 hrm.2 (Nat.zero_le _) (Nat.zero_le _) hd (k r M' he H locs ls hP hD hS hl)
theorem v_mmin {x y : Int32} {idx : Nat} (q : Nat) (hF : FX X G sh nL cc own ret rm) (hd : decode cc pc = .ok (.invokestatic idx, 3)) (hq : pc + 3 = q) (hw : Cond.methodLink own idx Lib.Math.min.name ∈ gT ∧ Cond.static Lib.Math.min.name ∈ gT ∧ Cond.initialized "java/lang/Math" ∈ gT ∧ Cond.code Lib.Math.min.name Lib.Math.min.code 2 (some .int) ∈ gT) (hrm : 1 ≤ rm.frames ∧ (st.map fun v => v.category).sum + 13 ≤ rm.locals) (k : VR X G sh nL rv M q lo (.int (mmin x y) :: st) e) : VR X G sh nL rv M pc lo (.int y :: .int x :: st) e := by
  obtain ⟨p, l, en, R, s, m, args, below, meth, c⟩ := X
  subst hq
  intro r M' he H locs ls hP hD hS hl
  obtain ⟨hx, hb, hown, hts, hK, hml, hr, hlk, hR, hXT⟩ := hF
  subst hR
  obtain ⟨w1, w2, w3, w4⟩ := hw
  exact va_mmin hx hb (hml.trans hl.1.symm) hown (hts _ w1) (hts _ w2) (hts _ w3) (hts _ w4) hrm.1 hrm.2 (Nat.zero_le _) (Nat.zero_le _) hd (k r M' he H locs ls hP hD hS hl)
theorem v_iret {x : Int32} (hF : FX X G sh nL cc own (some .int) rm) (hd : decode cc pc = .ok (.ireturn, 1)) : VR X G sh nL rvI M pc lo [.int x] (some (x, M)) := by
  obtain ⟨p, l, en, R, s, m, args, below, meth, c⟩ := X
  intro r M' he H locs ls hP hD hS hl
  obtain ⟨hx, hb, hown, hts, hK, hml, hr, hlk, hR, hXT⟩ := hF
  cases he
  exact W.iret hx hb hr (fun t ht hW => ⟨⟨rfl, by rw [ht]; exact hP⟩, hS.F ht⟩) hS.2.2 hd hlk
theorem v_zret0 {x : Int32} (hF : FX X G sh nL cc own (some .boolean) rm) (hd : decode cc pc = .ok (.ireturn, 1)) (hz : narrow .boolean (.int x) = .int x) : VR X G sh nL rvI M pc lo [.int x] (some (x, M)) := by
  obtain ⟨p, l, en, R, s, m, args, below, meth, c⟩ := X
  intro r M' he H locs ls hP hD hS hl
  obtain ⟨hx, hb, hown, hts, hK, hml, hr, hlk, hR, hXT⟩ := hF
  cases he
  exact W.zret hx hb hr hz (fun t ht hW => ⟨⟨rfl, by rw [ht]; exact hP⟩, hS.F ht⟩) hS.2.2 hd hlk
theorem z01_n {x : Int32} (h : z01 x = true) : narrow .boolean (.int x) = .int x ∧ fits .boolean (.int x) = true := by
  simp only [z01, Bool.or_eq_true, decide_eq_true_eq] at h
  rcases h with rfl | rfl
  · exact ⟨rfl, rfl⟩
  · exact ⟨rfl, rfl⟩
theorem v_zret {x : Int32} (hF : FX X G sh nL cc own (some .boolean) rm) (hd : decode cc pc = .ok (.ireturn, 1)) : VR X G sh nL rvI M pc lo [.int x] (gd (z01 x) (some (x, M))) := v_gd (fun h => v_zret0 hF hd (z01_n h).1)
theorem v_lret {x : Int64} (hF : FX X G sh nL cc own (some .long) rm) (hd : decode cc pc = .ok (.lreturn, 1)) : VR X G sh nL rvJ M pc lo [.long x] (some (x, M)) := by
  obtain ⟨p, l, en, R, s, m, args, below, meth, c⟩ := X
  intro r M' he H locs ls hP hD hS hl
  obtain ⟨hx, hb, hown, hts, hK, hml, hr, hlk, hR, hXT⟩ := hF
  cases he
  exact W.lret hx hb hr (fun t ht hW => ⟨⟨rfl, by rw [ht]; exact hP⟩, hS.F ht⟩) hS.2.2 hd hlk
theorem v_vret (hF : FX X G sh nL cc own none rm) (hd : decode cc pc = .ok (.return_, 1)) : VR X G sh nL rvV M pc lo [] (some ((), M)) := by
  obtain ⟨p, l, en, R, s, m, args, below, meth, c⟩ := X
  intro r M' he H locs ls hP hD hS hl
  obtain ⟨hx, hb, hown, hts, hK, hml, hr, hlk, hR, hXT⟩ := hF
  cases he
  exact W.vret hx hb hr (fun t ht hW => ⟨⟨rfl, by rw [ht]; exact hP⟩, hS.F ht⟩) hS.2.2 hd hlk
theorem v_aretR {k : Nat} {C : String} (hF : FX X G sh nL cc own (some (.object C)) rm) (hd : decode cc pc = .ok (.areturn, 1)) : VR X G sh nL (rvR G) M pc lo [.ref (G.2.2.2.2 k)] (some (some k, M)) := by
  obtain ⟨p, l, en, R, s, m, args, below, meth, c⟩ := X
  intro r M' he H locs ls hP hD hS hl
  obtain ⟨hx, hb, hown, hts, hK, hml, hr, hlk, hR, hXT⟩ := hF
  cases he
  exact W.aret hx hb hr (Or.inl ⟨_, rfl⟩) (Or.inr ⟨_, rfl⟩) (fun t ht hW => ⟨⟨rfl, by rw [ht]; exact hP⟩, hS.F ht⟩) hS.2.2 hd hlk
theorem v_aretN {C : String} (hF : FX X G sh nL cc own (some (.object C)) rm) (hd : decode cc pc = .ok (.areturn, 1)) : VR X G sh nL (rvR G) M pc lo [.null] (some (none, M)) := by
  obtain ⟨p, l, en, R, s, m, args, below, meth, c⟩ := X
  intro r M' he H locs ls hP hD hS hl
  obtain ⟨hx, hb, hown, hts, hK, hml, hr, hlk, hR, hXT⟩ := hF
  cases he
  exact W.aret hx hb hr (Or.inl ⟨_, rfl⟩) (Or.inl rfl) (fun t ht hW => ⟨⟨rfl, by rw [ht]; exact hP⟩, hS.F ht⟩) hS.2.2 hd hlk
/-- a call's words -/
def CWv (own : String) (idx : Nat) (C : String) (y : MethodName) (cc : ByteArray) (maxL : Nat) (ret : Option FieldType) (n : Nat) : Prop := (y.cls = C ∧ y.cls ≠ "java/lang/invoke/MethodHandle" ∧ y.cls ≠ "java/lang/invoke/VarHandle" ∧ (parseMethodDescriptor y.desc).map (fun d => d.parameters.length) = some n) ∧ Cond.methodLink own idx y ∈ gT ∧ Cond.instanceMethod y ∈ gT ∧ Cond.selects C y y ∈ gT ∧ Cond.initialized C ∈ gT ∧ Cond.code y cc maxL ret ∈ gT
def CWs (own : String) (idx : Nat) (y : MethodName) (cc : ByteArray) (maxL : Nat) (ret : Option FieldType) (n : Nat) : Prop := (y.cls ≠ "java/lang/invoke/MethodHandle" ∧ y.cls ≠ "java/lang/invoke/VarHandle" ∧ (parseMethodDescriptor y.desc).map (fun d => d.parameters.length) = some n) ∧ Cond.methodLink own idx y ∈ gT ∧ Cond.static y ∈ gT ∧ Cond.initialized y.cls ∈ gT ∧ Cond.code y cc maxL ret ∈ gT
/-- room for a callee -/
def rmok (rc rm : Room) (maxL : Nat) : Prop := rc.cells = 0 ∧ rc.slots = 0 ∧ rc.frames + 1 ≤ rm.frames ∧ 8 + (maxL + 11) + rc.locals ≤ rm.locals
theorem v_callX {β : Type} {y : MethodName} {cc2 : ByteArray} {maxL idx n ci b : Nat} {ret2 : Option FieldType} {rc : Room} {C : String} {T : u_T} {N : Nat} {As rest : List Value} {rv2 : β → Option Value} {e1 : Option (β × Mm)} {ts : List Nat} {f : β → Mm → Option (α × Mm)} (q : Nat) (hF : FX X G sh nL cc own ret rm) (hd : decode cc pc = .ok (.invokevirtual idx, 3)) (hq : pc + 3 = q) (hcw : CWv own idx C y cc2 maxL ret2 n) (hC : vwCl[ci]? = some (C, T, N)) (hs : sh[b]? = some (.inr (ci, ts))) (hct : CT y cc2 maxL ret2 rc G sh (.ref (G.2.2.2.2 b) :: As) rv2 M e1) (hrm : rmok rc rm maxL) (hst : st = As.reverse ++ .ref (G.2.2.2.2 b) :: rest) (hn : As.length = n) (hw : (rest.map fun v => v.category).sum ≤ 8) (k : ∀ r2 M2, VR X G sh nL rv M2 q lo ((rv2 r2).toList ++ rest) (f r2 M2)) : VR X G sh nL rv M pc lo st (bd e1 f) := by
  obtain ⟨p, l, en, R, s, m, args, below, meth, c⟩ := X
  subst hq
  intro r M' he H locs ls hP hD hS hl
  obtain ⟨hx, hb, hown, hts, hK, hml, hr, hlk, hR, hXT⟩ := hF
  subst hR
  cases e1 with
  | none => cases he
  | some x =>
    obtain ⟨r2, M2⟩ := x
    have hM := hct l r2 M2 H.size rfl
    obtain ⟨hy, w1, w2, w3, w4, w5⟩ := hcw
    have hG : GoodIn gT (wsV own idx C y (Cond.code y cc2 maxL ret2 :: gT)) := by
      intro w hw
      unfold wsV at hw
      rcases List.mem_append.mp hw with h | h
      · simp only [List.mem_cons, List.not_mem_nil, or_false] at h
        rcases h with rfl | rfl | rfl | rfl
        · exact gT_good _ w1
        · exact gT_good _ w2
        · exact gT_good _ w3
        · exact gT_good _ w4
      · exact gT_goodC w5 w h
    have hD2 := AX_D (sz := H.size) hD
    have run := va_runV (p := p) (l := l) (e := en) (R := R) (s := s) (m := m) (args := args) (below := below) (meth := meth) (c := c) (H := H) (locs := locs) (cells := 0) (slots := 0) (g := F0 m pc ls st) (b := G.2.2.2.2 b) (As := As) (rest := rest) ⟨hx, hb, hml, hown, hts⟩ hM (cwV n hts hG rfl hrm.1 hrm.2.1 hy hrm.2.2) ⟨fun a U g mk z => ⟨z.1, z.2.1, z.2.2.1, va_K.moved (u := U) (U := U.calling g mk a) (Vm.Alike.refl U.vm) z.2.2.2.1, z.2.2.2.2.1, XT_calling z.2.2.2.2.2⟩, va_recv hK hP hC (wl_get hs), fun U hU hW => ⟨rfl, by rw [hU], by rw [hU]; exact hP, va_K.moved hW.alike hK, hD.weaken (fun _ _ _ _ => trivial), XT_moved hXT hS hU hW.alike⟩⟩ rfl hn hl.1 hst (lv_room hw) hd ⟨Nat.zero_le _, Nat.zero_le _⟩
    intro T0 hT Xs
    obtain ⟨v, st₀, t, T', L, h0, X', hL, e1, e2, ⟨⟨hv, hP2⟩, hz, hk2⟩, stp⟩ := run T0 hT Xs
    cases hv
    rw [h0] at hz hk2
    have hA : ∀ z, AX sh G H.size z → AX sh G s.heap.size z := fun z hz2 => AX_le hS.1 hz2
    obtain ⟨t2, a1, b1⟩ := k r2 M2 r M' he T'.heap (locs ++ L) ls (by rw [e1]; exact hP2) (wl_D hD) ⟨Nat.le_trans hS.1 (by rw [e1]; exact hz), fun z h1 h2 => by rw [e1, hk2 z (Nat.lt_of_lt_of_le h1 hS.1) (fun w => h2 (hA z w))]; exact hS.2.1 z h1 h2, fun z hz2 => by
        rcases List.mem_append.mp hz2 with h | h
        · exact hS.2.2 z h
        · exact hA _ (hL z h)⟩ hl T' rfl X'
    exact ⟨t2, stp t2 a1, b1⟩
theorem v_callY {β : Type} {y : MethodName} {cc2 : ByteArray} {maxL idx n : Nat} {ret2 : Option FieldType} {rc : Room} {As rest : List Value} {rv2 : β → Option Value} {e1 : Option (β × Mm)} {f : β → Mm → Option (α × Mm)} (q : Nat) (hF : FX X G sh nL cc own ret rm) (hd : decode cc pc = .ok (.invokestatic idx, 3)) (hq : pc + 3 = q) (hcw : CWs own idx y cc2 maxL ret2 n) (hct : CT y cc2 maxL ret2 rc G sh As rv2 M e1) (hrm : rmok rc rm maxL) (hst : st = As.reverse ++ rest) (hn : As.length = n) (hw : (rest.map fun v => v.category).sum ≤ 8) (k : ∀ r2 M2, VR X G sh nL rv M2 q lo ((rv2 r2).toList ++ rest) (f r2 M2)) : VR X G sh nL rv M pc lo st (bd e1 f) := by
  obtain ⟨p, l, en, R, s, m, args, below, meth, c⟩ := X
  subst hq
  intro r M' he H locs ls hP hD hS hl
  obtain ⟨hx, hb, hown, hts, hK, hml, hr, hlk, hR, hXT⟩ := hF
  subst hR
  cases e1 with
  | none => cases he
  | some x =>
    obtain ⟨r2, M2⟩ := x
    have hM := hct l r2 M2 H.size rfl
    obtain ⟨hy, w1, w2, w4, w5⟩ := hcw
    have hcb : CallB R s args own idx y cc2 maxL ret2 (Cond.code y cc2 maxL ret2 :: gT) rc 0 0 n := callB_of n hts (gT_goodC w5) rfl hrm.1 hrm.2.1 (hts _ w4) (hts _ w1) hy hrm.2.2
    have run := va_runS (p := p) (l := l) (e := en) (R := R) (s := s) (m := m) (args := args) (below := below) (meth := meth) (c := c) (H := H) (locs := locs) (cells := 0) (slots := 0) (g := F0 m pc ls st) (As := As) (rest := rest) ⟨hx, hb, hml, hown, hts⟩ hM ⟨hcb, hts _ w2⟩ ⟨fun a U g mk z => ⟨z.1, z.2.1, z.2.2.1, va_K.moved (u := U) (U := U.calling g mk a) (Vm.Alike.refl U.vm) z.2.2.2.1, z.2.2.2.2.1, XT_calling z.2.2.2.2.2⟩, fun U hU hW => ⟨rfl, by rw [hU], by rw [hU]; exact hP, va_K.moved hW.alike hK, hD.weaken (fun _ _ _ _ => trivial), XT_moved hXT hS hU hW.alike⟩⟩ rfl hn hl.1 hst (lv_room hw) hd ⟨Nat.zero_le _, Nat.zero_le _⟩
    intro T0 hT Xs
    obtain ⟨v, st₀, t, T', L, h0, X', hL, e1, e2, ⟨⟨hv, hP2⟩, hz, hk2⟩, stp⟩ := run T0 hT Xs
    cases hv
    rw [h0] at hz hk2
    have hA : ∀ z, AX sh G H.size z → AX sh G s.heap.size z := fun z hz2 => AX_le hS.1 hz2
    obtain ⟨t2, a1, b1⟩ := k r2 M2 r M' he T'.heap (locs ++ L) ls (by rw [e1]; exact hP2) (wl_D hD) ⟨Nat.le_trans hS.1 (by rw [e1]; exact hz), fun z h1 h2 => by rw [e1, hk2 z (Nat.lt_of_lt_of_le h1 hS.1) (fun w => h2 (hA z w))]; exact hS.2.1 z h1 h2, fun z hz2 => by
        rcases List.mem_append.mp hz2 with h | h
        · exact hS.2.2 z h
        · exact hA _ (hL z h)⟩ hl T' rfl X'
    exact ⟨t2, stp t2 a1, b1⟩
theorem v_callI {y : MethodName} {cc2 : ByteArray} {maxL idx n ci b : Nat} {ret2 : Option FieldType} {rc : Room} {C : String} {T : u_T} {N : Nat} {e1 : Option (Int32 × Mm)} {ts : List Nat} {f : Int32 → Mm → Option (α × Mm)} (As rest : List Value) (q : Nat) (hF : FX X G sh nL cc own ret rm) (hd : decode cc pc = .ok (.invokevirtual idx, 3)) (hq : pc + 3 = q) (hcw : CWv own idx C y cc2 maxL ret2 n) (hC : vwCl[ci]? = some (C, T, N)) (hs : sh[b]? = some (.inr (ci, ts))) (hct : CT y cc2 maxL ret2 rc G sh (.ref (G.2.2.2.2 b) :: As) rvI M e1) (hrm : rmok rc rm maxL) (hst : st = As.reverse ++ .ref (G.2.2.2.2 b) :: rest) (hn : As.length = n) (hw : (rest.map fun v => v.category).sum ≤ 8) (k : ∀ r2 M2, VR X G sh nL rv M2 q lo (.int r2 :: rest) (f r2 M2)) : VR X G sh nL rv M pc lo st (bd e1 f) := v_callX q hF hd hq hcw hC hs hct hrm hst hn hw k
theorem v_staI {y : MethodName} {cc2 : ByteArray} {maxL idx n : Nat} {ret2 : Option FieldType} {rc : Room} {e1 : Option (Int32 × Mm)} {f : Int32 → Mm → Option (α × Mm)} (As rest : List Value) (q : Nat) (hF : FX X G sh nL cc own ret rm) (hd : decode cc pc = .ok (.invokestatic idx, 3)) (hq : pc + 3 = q) (hcw : CWs own idx y cc2 maxL ret2 n) (hct : CT y cc2 maxL ret2 rc G sh As rvI M e1) (hrm : rmok rc rm maxL) (hst : st = As.reverse ++ rest) (hn : As.length = n) (hw : (rest.map fun v => v.category).sum ≤ 8) (k : ∀ r2 M2, VR X G sh nL rv M2 q lo (.int r2 :: rest) (f r2 M2)) : VR X G sh nL rv M pc lo st (bd e1 f) := v_callY q hF hd hq hcw hct hrm hst hn hw k
theorem v_callV {y : MethodName} {cc2 : ByteArray} {maxL idx n ci b : Nat} {ret2 : Option FieldType} {rc : Room} {C : String} {T : u_T} {N : Nat} {e1 : Option (Unit × Mm)} {ts : List Nat} {f : Unit → Mm → Option (α × Mm)} (As rest : List Value) (q : Nat) (hF : FX X G sh nL cc own ret rm) (hd : decode cc pc = .ok (.invokevirtual idx, 3)) (hq : pc + 3 = q) (hcw : CWv own idx C y cc2 maxL ret2 n) (hC : vwCl[ci]? = some (C, T, N)) (hs : sh[b]? = some (.inr (ci, ts))) (hct : CT y cc2 maxL ret2 rc G sh (.ref (G.2.2.2.2 b) :: As) rvV M e1) (hrm : rmok rc rm maxL) (hst : st = As.reverse ++ .ref (G.2.2.2.2 b) :: rest) (hn : As.length = n) (hw : (rest.map fun v => v.category).sum ≤ 8) (k : ∀ r2 M2, VR X G sh nL rv M2 q lo (rest) (f r2 M2)) : VR X G sh nL rv M pc lo st (bd e1 f) := v_callX q hF hd hq hcw hC hs hct hrm hst hn hw k
theorem v_staV {y : MethodName} {cc2 : ByteArray} {maxL idx n : Nat} {ret2 : Option FieldType} {rc : Room} {e1 : Option (Unit × Mm)} {f : Unit → Mm → Option (α × Mm)} (As rest : List Value) (q : Nat) (hF : FX X G sh nL cc own ret rm) (hd : decode cc pc = .ok (.invokestatic idx, 3)) (hq : pc + 3 = q) (hcw : CWs own idx y cc2 maxL ret2 n) (hct : CT y cc2 maxL ret2 rc G sh As rvV M e1) (hrm : rmok rc rm maxL) (hst : st = As.reverse ++ rest) (hn : As.length = n) (hw : (rest.map fun v => v.category).sum ≤ 8) (k : ∀ r2 M2, VR X G sh nL rv M2 q lo (rest) (f r2 M2)) : VR X G sh nL rv M pc lo st (bd e1 f) := v_callY q hF hd hq hcw hct hrm hst hn hw k
theorem v_callJ {y : MethodName} {cc2 : ByteArray} {maxL idx n ci b : Nat} {ret2 : Option FieldType} {rc : Room} {C : String} {T : u_T} {N : Nat} {e1 : Option (Int64 × Mm)} {ts : List Nat} {f : Int64 → Mm → Option (α × Mm)} (As rest : List Value) (q : Nat) (hF : FX X G sh nL cc own ret rm) (hd : decode cc pc = .ok (.invokevirtual idx, 3)) (hq : pc + 3 = q) (hcw : CWv own idx C y cc2 maxL ret2 n) (hC : vwCl[ci]? = some (C, T, N)) (hs : sh[b]? = some (.inr (ci, ts))) (hct : CT y cc2 maxL ret2 rc G sh (.ref (G.2.2.2.2 b) :: As) rvJ M e1) (hrm : rmok rc rm maxL) (hst : st = As.reverse ++ .ref (G.2.2.2.2 b) :: rest) (hn : As.length = n) (hw : (rest.map fun v => v.category).sum ≤ 8) (k : ∀ r2 M2, VR X G sh nL rv M2 q lo (.long r2 :: rest) (f r2 M2)) : VR X G sh nL rv M pc lo st (bd e1 f) := v_callX q hF hd hq hcw hC hs hct hrm hst hn hw k
theorem v_staJ {y : MethodName} {cc2 : ByteArray} {maxL idx n : Nat} {ret2 : Option FieldType} {rc : Room} {e1 : Option (Int64 × Mm)} {f : Int64 → Mm → Option (α × Mm)} (As rest : List Value) (q : Nat) (hF : FX X G sh nL cc own ret rm) (hd : decode cc pc = .ok (.invokestatic idx, 3)) (hq : pc + 3 = q) (hcw : CWs own idx y cc2 maxL ret2 n) (hct : CT y cc2 maxL ret2 rc G sh As rvJ M e1) (hrm : rmok rc rm maxL) (hst : st = As.reverse ++ rest) (hn : As.length = n) (hw : (rest.map fun v => v.category).sum ≤ 8) (k : ∀ r2 M2, VR X G sh nL rv M2 q lo (.long r2 :: rest) (f r2 M2)) : VR X G sh nL rv M pc lo st (bd e1 f) := v_callY q hF hd hq hcw hct hrm hst hn hw k
theorem v_callR {y : MethodName} {cc2 : ByteArray} {maxL idx n ci b : Nat} {ret2 : Option FieldType} {rc : Room} {C : String} {T : u_T} {N : Nat} {e1 : Option (Option Nat × Mm)} {ts : List Nat} {f0 : Mm → Option (α × Mm)} {f1 : Nat → Mm → Option (α × Mm)} (As rest : List Value) (q : Nat) (hF : FX X G sh nL cc own ret rm) (hd : decode cc pc = .ok (.invokevirtual idx, 3)) (hq : pc + 3 = q) (hcw : CWv own idx C y cc2 maxL ret2 n) (hC : vwCl[ci]? = some (C, T, N)) (hs : sh[b]? = some (.inr (ci, ts))) (hct : CT y cc2 maxL ret2 rc G sh (.ref (G.2.2.2.2 b) :: As) (rvR G) M e1) (hrm : rmok rc rm maxL) (hst : st = As.reverse ++ .ref (G.2.2.2.2 b) :: rest) (hn : As.length = n) (hw : (rest.map fun v => v.category).sum ≤ 8) (k0 : ∀ M2, VR X G sh nL rv M2 q lo (.null :: rest) (f0 M2)) (k1 : ∀ a M2, VR X G sh nL rv M2 q lo (.ref (G.2.2.2.2 a) :: rest) (f1 a M2)) : VR X G sh nL rv M pc lo st (bd e1 (rcase f0 f1)) := v_callX q hF hd hq hcw hC hs hct hrm hst hn hw (fun r2 M2 => match r2 with
  | none => k0 M2
  | some a => k1 a M2)
end VRS
end
section
theorem in_X0 : ∀ w ∈ u_ws RX0 TX0 3, w ∈ gT := by
  intro w hw
  obtain ⟨k, hk, rfl⟩ := List.mem_map.mp hw
  have hk := List.mem_range.mp hk
  match k, hk with
  | 0, _ => exact gT_in 410 (by decide +kernel) rfl
  | 1, _ => exact gT_in 412 (by decide +kernel) rfl
  | 2, _ => exact gT_in 414 (by decide +kernel) rfl
  | k + 3, h => exact absurd h (by omega)
theorem fp_X0_0 : FPt 0 0 .int := ⟨RX0, TX0, 3, tyX0, rfl, tyX0_ok, nmX0, rfl, by decide +kernel⟩
theorem fp_X0_1 : FPt 0 1 .int := ⟨RX0, TX0, 3, tyX0, rfl, tyX0_ok, nmX0, rfl, by decide +kernel⟩
theorem in_X1 : ∀ w ∈ u_ws RX1 TX1 8, w ∈ gT := by
  intro w hw
  obtain ⟨k, hk, rfl⟩ := List.mem_map.mp hw
  have hk := List.mem_range.mp hk
  match k, hk with
  | 0, _ => exact gT_in 156 (by decide +kernel) rfl
  | 1, _ => exact gT_in 158 (by decide +kernel) rfl
  | 2, _ => exact gT_in 160 (by decide +kernel) rfl
  | 3, _ => exact gT_in 162 (by decide +kernel) rfl
  | 4, _ => exact gT_in 164 (by decide +kernel) rfl
  | 5, _ => exact gT_in 166 (by decide +kernel) rfl
  | 6, _ => exact gT_in 168 (by decide +kernel) rfl
  | 7, _ => exact gT_in 170 (by decide +kernel) rfl
  | k + 8, h => exact absurd h (by omega)
theorem fp_X1_0 : FPt 1 0 .int := ⟨RX1, TX1, 8, tyX1, rfl, tyX1_ok, nmX1, rfl, by decide +kernel⟩
theorem fp_X1_3 : FPt 1 3 .int := ⟨RX1, TX1, 8, tyX1, rfl, tyX1_ok, nmX1, rfl, by decide +kernel⟩
theorem fp_X1_4 : FPt 1 4 .int := ⟨RX1, TX1, 8, tyX1, rfl, tyX1_ok, nmX1, rfl, by decide +kernel⟩
theorem fp_X1_5 : FPt 1 5 .int := ⟨RX1, TX1, 8, tyX1, rfl, tyX1_ok, nmX1, rfl, by decide +kernel⟩
theorem fp_X1_6 : FPt 1 6 .int := ⟨RX1, TX1, 8, tyX1, rfl, tyX1_ok, nmX1, rfl, by decide +kernel⟩
theorem fp_X1_7 : FPt 1 7 .int := ⟨RX1, TX1, 8, tyX1, rfl, tyX1_ok, nmX1, rfl, by decide +kernel⟩
theorem in_X2 : ∀ w ∈ u_ws RX2 TX2 11, w ∈ gT := by
  intro w hw
  obtain ⟨k, hk, rfl⟩ := List.mem_map.mp hw
  have hk := List.mem_range.mp hk
  match k, hk with
  | 0, _ => exact gT_in 117 (by decide +kernel) rfl
  | 1, _ => exact gT_in 119 (by decide +kernel) rfl
  | 2, _ => exact gT_in 121 (by decide +kernel) rfl
  | 3, _ => exact gT_in 123 (by decide +kernel) rfl
  | 4, _ => exact gT_in 125 (by decide +kernel) rfl
  | 5, _ => exact gT_in 127 (by decide +kernel) rfl
  | 6, _ => exact gT_in 129 (by decide +kernel) rfl
  | 7, _ => exact gT_in 131 (by decide +kernel) rfl
  | 8, _ => exact gT_in 133 (by decide +kernel) rfl
  | 9, _ => exact gT_in 135 (by decide +kernel) rfl
  | 10, _ => exact gT_in 137 (by decide +kernel) rfl
  | k + 11, h => exact absurd h (by omega)
theorem fp_X2_0 : FPt 2 0 .int := ⟨RX2, TX2, 11, tyX2, rfl, tyX2_ok, nmX2, rfl, by decide +kernel⟩
theorem fp_X2_1 : FPt 2 1 .int := ⟨RX2, TX2, 11, tyX2, rfl, tyX2_ok, nmX2, rfl, by decide +kernel⟩
theorem fp_X2_2 : FPt 2 2 .int := ⟨RX2, TX2, 11, tyX2, rfl, tyX2_ok, nmX2, rfl, by decide +kernel⟩
theorem fp_X2_3 : FPt 2 3 .int := ⟨RX2, TX2, 11, tyX2, rfl, tyX2_ok, nmX2, rfl, by decide +kernel⟩
theorem fp_X2_4 : FPt 2 4 .int := ⟨RX2, TX2, 11, tyX2, rfl, tyX2_ok, nmX2, rfl, by decide +kernel⟩
theorem fp_X2_5 : FPt 2 5 .int := ⟨RX2, TX2, 11, tyX2, rfl, tyX2_ok, nmX2, rfl, by decide +kernel⟩
theorem fp_X2_6 : FPt 2 6 .int := ⟨RX2, TX2, 11, tyX2, rfl, tyX2_ok, nmX2, rfl, by decide +kernel⟩
theorem fp_X2_9 : FPt 2 9 .int := ⟨RX2, TX2, 11, tyX2, rfl, tyX2_ok, nmX2, rfl, by decide +kernel⟩
theorem in_X3 : ∀ w ∈ u_ws RX3 TX3 15, w ∈ gT := by
  intro w hw
  obtain ⟨k, hk, rfl⟩ := List.mem_map.mp hw
  have hk := List.mem_range.mp hk
  match k, hk with
  | 0, _ => exact gT_in 364 (by decide +kernel) rfl
  | 1, _ => exact gT_in 366 (by decide +kernel) rfl
  | 2, _ => exact gT_in 368 (by decide +kernel) rfl
  | 3, _ => exact gT_in 370 (by decide +kernel) rfl
  | 4, _ => exact gT_in 372 (by decide +kernel) rfl
  | 5, _ => exact gT_in 374 (by decide +kernel) rfl
  | 6, _ => exact gT_in 376 (by decide +kernel) rfl
  | 7, _ => exact gT_in 378 (by decide +kernel) rfl
  | 8, _ => exact gT_in 380 (by decide +kernel) rfl
  | 9, _ => exact gT_in 382 (by decide +kernel) rfl
  | 10, _ => exact gT_in 384 (by decide +kernel) rfl
  | 11, _ => exact gT_in 386 (by decide +kernel) rfl
  | 12, _ => exact gT_in 388 (by decide +kernel) rfl
  | 13, _ => exact gT_in 390 (by decide +kernel) rfl
  | 14, _ => exact gT_in 392 (by decide +kernel) rfl
  | k + 15, h => exact absurd h (by omega)
theorem fp_X3_1 : FPt 3 1 .int := ⟨RX3, TX3, 15, tyX3, rfl, tyX3_ok, nmX3, rfl, by decide +kernel⟩
theorem fp_X3_2 : FPt 3 2 .int := ⟨RX3, TX3, 15, tyX3, rfl, tyX3_ok, nmX3, rfl, by decide +kernel⟩
theorem fp_X3_3 : FPt 3 3 .int := ⟨RX3, TX3, 15, tyX3, rfl, tyX3_ok, nmX3, rfl, by decide +kernel⟩
theorem fp_X3_4 : FPt 3 4 .int := ⟨RX3, TX3, 15, tyX3, rfl, tyX3_ok, nmX3, rfl, by decide +kernel⟩
theorem fp_X3_5 : FPt 3 5 .int := ⟨RX3, TX3, 15, tyX3, rfl, tyX3_ok, nmX3, rfl, by decide +kernel⟩
theorem fp_X3_6 : FPt 3 6 .int := ⟨RX3, TX3, 15, tyX3, rfl, tyX3_ok, nmX3, rfl, by decide +kernel⟩
theorem in_X4 : ∀ w ∈ u_ws RX4 TX4 8, w ∈ gT := by
  intro w hw
  obtain ⟨k, hk, rfl⟩ := List.mem_map.mp hw
  have hk := List.mem_range.mp hk
  match k, hk with
  | 0, _ => exact gT_in 425 (by decide +kernel) rfl
  | 1, _ => exact gT_in 427 (by decide +kernel) rfl
  | 2, _ => exact gT_in 429 (by decide +kernel) rfl
  | 3, _ => exact gT_in 431 (by decide +kernel) rfl
  | 4, _ => exact gT_in 433 (by decide +kernel) rfl
  | 5, _ => exact gT_in 435 (by decide +kernel) rfl
  | 6, _ => exact gT_in 437 (by decide +kernel) rfl
  | 7, _ => exact gT_in 439 (by decide +kernel) rfl
  | k + 8, h => exact absurd h (by omega)
theorem fp_X4_5 : FPt 4 5 .boolean := ⟨RX4, TX4, 8, tyX4, rfl, tyX4_ok, nmX4, rfl, by decide +kernel⟩
theorem in_X5 : ∀ w ∈ u_ws RX5 TX5 44, w ∈ gT := by
  intro w hw
  obtain ⟨k, hk, rfl⟩ := List.mem_map.mp hw
  have hk := List.mem_range.mp hk
  match k, hk with
  | 0, _ => exact gT_in 890 (by decide +kernel) rfl
  | 1, _ => exact gT_in 892 (by decide +kernel) rfl
  | 2, _ => exact gT_in 894 (by decide +kernel) rfl
  | 3, _ => exact gT_in 896 (by decide +kernel) rfl
  | 4, _ => exact gT_in 898 (by decide +kernel) rfl
  | 5, _ => exact gT_in 900 (by decide +kernel) rfl
  | 6, _ => exact gT_in 902 (by decide +kernel) rfl
  | 7, _ => exact gT_in 904 (by decide +kernel) rfl
  | 8, _ => exact gT_in 906 (by decide +kernel) rfl
  | 9, _ => exact gT_in 908 (by decide +kernel) rfl
  | 10, _ => exact gT_in 910 (by decide +kernel) rfl
  | 11, _ => exact gT_in 912 (by decide +kernel) rfl
  | 12, _ => exact gT_in 914 (by decide +kernel) rfl
  | 13, _ => exact gT_in 916 (by decide +kernel) rfl
  | 14, _ => exact gT_in 918 (by decide +kernel) rfl
  | 15, _ => exact gT_in 920 (by decide +kernel) rfl
  | 16, _ => exact gT_in 922 (by decide +kernel) rfl
  | 17, _ => exact gT_in 924 (by decide +kernel) rfl
  | 18, _ => exact gT_in 926 (by decide +kernel) rfl
  | 19, _ => exact gT_in 928 (by decide +kernel) rfl
  | 20, _ => exact gT_in 930 (by decide +kernel) rfl
  | 21, _ => exact gT_in 932 (by decide +kernel) rfl
  | 22, _ => exact gT_in 934 (by decide +kernel) rfl
  | 23, _ => exact gT_in 936 (by decide +kernel) rfl
  | 24, _ => exact gT_in 938 (by decide +kernel) rfl
  | 25, _ => exact gT_in 940 (by decide +kernel) rfl
  | 26, _ => exact gT_in 942 (by decide +kernel) rfl
  | 27, _ => exact gT_in 944 (by decide +kernel) rfl
  | 28, _ => exact gT_in 946 (by decide +kernel) rfl
  | 29, _ => exact gT_in 948 (by decide +kernel) rfl
  | 30, _ => exact gT_in 950 (by decide +kernel) rfl
  | 31, _ => exact gT_in 952 (by decide +kernel) rfl
  | 32, _ => exact gT_in 954 (by decide +kernel) rfl
  | 33, _ => exact gT_in 956 (by decide +kernel) rfl
  | 34, _ => exact gT_in 958 (by decide +kernel) rfl
  | 35, _ => exact gT_in 960 (by decide +kernel) rfl
  | 36, _ => exact gT_in 962 (by decide +kernel) rfl
  | 37, _ => exact gT_in 964 (by decide +kernel) rfl
  | 38, _ => exact gT_in 966 (by decide +kernel) rfl
  | 39, _ => exact gT_in 968 (by decide +kernel) rfl
  | 40, _ => exact gT_in 970 (by decide +kernel) rfl
  | 41, _ => exact gT_in 972 (by decide +kernel) rfl
  | 42, _ => exact gT_in 974 (by decide +kernel) rfl
  | 43, _ => exact gT_in 976 (by decide +kernel) rfl
  | k + 44, h => exact absurd h (by omega)
theorem fp_X5_0 : FPt 5 0 .int := ⟨RX5, TX5, 44, tyX5, rfl, tyX5_ok, nmX5, rfl, by decide +kernel⟩
theorem fp_X5_3 : FPt 5 3 .int := ⟨RX5, TX5, 44, tyX5, rfl, tyX5_ok, nmX5, rfl, by decide +kernel⟩
theorem fp_X5_4 : FPt 5 4 .int := ⟨RX5, TX5, 44, tyX5, rfl, tyX5_ok, nmX5, rfl, by decide +kernel⟩
theorem fp_X5_6 : FPt 5 6 .int := ⟨RX5, TX5, 44, tyX5, rfl, tyX5_ok, nmX5, rfl, by decide +kernel⟩
theorem fp_X5_7 : FPt 5 7 .int := ⟨RX5, TX5, 44, tyX5, rfl, tyX5_ok, nmX5, rfl, by decide +kernel⟩
theorem fp_X5_8 : FPt 5 8 .int := ⟨RX5, TX5, 44, tyX5, rfl, tyX5_ok, nmX5, rfl, by decide +kernel⟩
theorem fp_X5_10 : FPt 5 10 .int := ⟨RX5, TX5, 44, tyX5, rfl, tyX5_ok, nmX5, rfl, by decide +kernel⟩
theorem fp_X5_12 : FPt 5 12 .int := ⟨RX5, TX5, 44, tyX5, rfl, tyX5_ok, nmX5, rfl, by decide +kernel⟩
theorem fp_X5_13 : FPt 5 13 .int := ⟨RX5, TX5, 44, tyX5, rfl, tyX5_ok, nmX5, rfl, by decide +kernel⟩
theorem fp_X5_14 : FPt 5 14 .int := ⟨RX5, TX5, 44, tyX5, rfl, tyX5_ok, nmX5, rfl, by decide +kernel⟩
theorem fp_X5_15 : FPt 5 15 .int := ⟨RX5, TX5, 44, tyX5, rfl, tyX5_ok, nmX5, rfl, by decide +kernel⟩
theorem fp_X5_16 : FPt 5 16 .int := ⟨RX5, TX5, 44, tyX5, rfl, tyX5_ok, nmX5, rfl, by decide +kernel⟩
theorem fp_X5_17 : FPt 5 17 .int := ⟨RX5, TX5, 44, tyX5, rfl, tyX5_ok, nmX5, rfl, by decide +kernel⟩
theorem fp_X5_18 : FPt 5 18 .int := ⟨RX5, TX5, 44, tyX5, rfl, tyX5_ok, nmX5, rfl, by decide +kernel⟩
theorem fp_X5_19 : FPt 5 19 .int := ⟨RX5, TX5, 44, tyX5, rfl, tyX5_ok, nmX5, rfl, by decide +kernel⟩
theorem fp_X5_20 : FPt 5 20 .int := ⟨RX5, TX5, 44, tyX5, rfl, tyX5_ok, nmX5, rfl, by decide +kernel⟩
theorem fp_X5_21 : FPt 5 21 .int := ⟨RX5, TX5, 44, tyX5, rfl, tyX5_ok, nmX5, rfl, by decide +kernel⟩
theorem fp_X5_22 : FPt 5 22 .int := ⟨RX5, TX5, 44, tyX5, rfl, tyX5_ok, nmX5, rfl, by decide +kernel⟩
theorem fp_X5_23 : FPt 5 23 .int := ⟨RX5, TX5, 44, tyX5, rfl, tyX5_ok, nmX5, rfl, by decide +kernel⟩
theorem fp_X5_24 : FPt 5 24 .int := ⟨RX5, TX5, 44, tyX5, rfl, tyX5_ok, nmX5, rfl, by decide +kernel⟩
theorem fp_X5_25 : FPt 5 25 .long := ⟨RX5, TX5, 44, tyX5, rfl, tyX5_ok, nmX5, rfl, by decide +kernel⟩
theorem fp_X5_26 : FPt 5 26 .int := ⟨RX5, TX5, 44, tyX5, rfl, tyX5_ok, nmX5, rfl, by decide +kernel⟩
theorem fp_X5_27 : FPt 5 27 .boolean := ⟨RX5, TX5, 44, tyX5, rfl, tyX5_ok, nmX5, rfl, by decide +kernel⟩
theorem fp_X5_28 : FPt 5 28 .int := ⟨RX5, TX5, 44, tyX5, rfl, tyX5_ok, nmX5, rfl, by decide +kernel⟩
theorem fp_X5_35 : FPt 5 35 .int := ⟨RX5, TX5, 44, tyX5, rfl, tyX5_ok, nmX5, rfl, by decide +kernel⟩
theorem fp_X5_36 : FPt 5 36 .int := ⟨RX5, TX5, 44, tyX5, rfl, tyX5_ok, nmX5, rfl, by decide +kernel⟩
theorem fp_X5_37 : FPt 5 37 .int := ⟨RX5, TX5, 44, tyX5, rfl, tyX5_ok, nmX5, rfl, by decide +kernel⟩
theorem fp_X5_38 : FPt 5 38 .int := ⟨RX5, TX5, 44, tyX5, rfl, tyX5_ok, nmX5, rfl, by decide +kernel⟩
theorem fp_X5_39 : FPt 5 39 .int := ⟨RX5, TX5, 44, tyX5, rfl, tyX5_ok, nmX5, rfl, by decide +kernel⟩
theorem fl_X0_9 : FLd RX0 9 0 0 := ⟨RX0, TX0, 3, rfl, by decide, in_X0, rfl, gT_in 403 (by decide +kernel) rfl⟩
theorem fl_X0_13 : FLd RX0 13 0 2 := ⟨RX0, TX0, 3, rfl, by decide, in_X0, rfl, gT_in 408 (by decide +kernel) rfl⟩
theorem cm_X0_17 : Cond.methodLink RX0 17 Lib.Math.min.name ∈ gT ∧ Cond.static Lib.Math.min.name ∈ gT ∧ Cond.initialized "java/lang/Math" ∈ gT ∧ Cond.code Lib.Math.min.name Lib.Math.min.code 2 (some .int) ∈ gT := ⟨gT_in 771 (by decide +kernel) rfl, gT_in 584 (by decide +kernel) rfl, gT_in 83 (by decide +kernel) rfl, gT_in 585 (by decide +kernel) rfl⟩
theorem cm_X0_23 : Cond.methodLink RX0 23 Lib.Math.max.name ∈ gT ∧ Cond.static Lib.Math.max.name ∈ gT ∧ Cond.initialized "java/lang/Math" ∈ gT ∧ Cond.code Lib.Math.max.name Lib.Math.max.code 2 (some .int) ∈ gT := ⟨gT_in 772 (by decide +kernel) rfl, gT_in 571 (by decide +kernel) rfl, gT_in 83 (by decide +kernel) rfl, gT_in 572 (by decide +kernel) rfl⟩
theorem fl_X0_26 : FLd RX0 26 0 1 := ⟨RX0, TX0, 3, rfl, by decide, in_X0, rfl, gT_in 405 (by decide +kernel) rfl⟩
theorem cw_X0_29 : CWv RX0 29 RX0 yX0_has cX0_has 2 (some .boolean) 1 := ⟨by decide +kernel, gT_in 743 (by decide +kernel) rfl, gT_in 744 (by decide +kernel) rfl, gT_in 745 (by decide +kernel) rfl, gT_in 80 (by decide +kernel) rfl, gT_in 746 (by decide +kernel) rfl⟩
theorem fl_X1_11 : FLd RX1 11 1 2 := ⟨RX1, TX1, 8, rfl, by decide, in_X1, rfl, gT_in 150 (by decide +kernel) rfl⟩
theorem fl_X1_15 : FLd RX1 15 1 1 := ⟨RX1, TX1, 8, rfl, by decide, in_X1, rfl, gT_in 149 (by decide +kernel) rfl⟩
theorem fl_X1_19 : FLd RX1 19 1 0 := ⟨RX1, TX1, 8, rfl, by decide, in_X1, rfl, gT_in 147 (by decide +kernel) rfl⟩
theorem cw_X1_33 : CWv RX1 33 RX1 yX1_add cX1_add 2 (some .boolean) 1 := ⟨by decide +kernel, gT_in 226 (by decide +kernel) rfl, gT_in 227 (by decide +kernel) rfl, gT_in 228 (by decide +kernel) rfl, gT_in 74 (by decide +kernel) rfl, gT_in 229 (by decide +kernel) rfl⟩
theorem fl_X1_37 : FLd RX1 37 1 7 := ⟨RX1, TX1, 8, rfl, by decide, in_X1, rfl, gT_in 155 (by decide +kernel) rfl⟩
theorem fl_X1_40 : FLd RX1 40 1 5 := ⟨RX1, TX1, 8, rfl, by decide, in_X1, rfl, gT_in 153 (by decide +kernel) rfl⟩
theorem cw_X1_43 : CWv RX1 43 RX1 yX1_advance cX1_advance 2 none 0 := ⟨by decide +kernel, gT_in 234 (by decide +kernel) rfl, gT_in 236 (by decide +kernel) rfl, gT_in 0 (by decide +kernel) rfl, gT_in 74 (by decide +kernel) rfl, gT_in 237 (by decide +kernel) rfl⟩
theorem cw_X1_46 : CWv RX1 46 RX2 yX2_begin cX2_begin 1 none 0 := ⟨by decide +kernel, gT_in 281 (by decide +kernel) rfl, gT_in 282 (by decide +kernel) rfl, gT_in 283 (by decide +kernel) rfl, gT_in 73 (by decide +kernel) rfl, gT_in 284 (by decide +kernel) rfl⟩
theorem cw_X1_51 : CWv RX1 51 RX1 yX1_expect cX1_expect 2 none 1 := ⟨by decide +kernel, gT_in 289 (by decide +kernel) rfl, gT_in 291 (by decide +kernel) rfl, gT_in 5 (by decide +kernel) rfl, gT_in 74 (by decide +kernel) rfl, gT_in 292 (by decide +kernel) rfl⟩
theorem cw_X1_55 : CWv RX1 55 RX1 yX1_readOr cX1_readOr 3 none 1 := ⟨by decide +kernel, gT_in 297 (by decide +kernel) rfl, gT_in 299 (by decide +kernel) rfl, gT_in 7 (by decide +kernel) rfl, gT_in 74 (by decide +kernel) rfl, gT_in 300 (by decide +kernel) rfl⟩
theorem cw_X1_58 : CWv RX1 58 RX2 yX2_endPart cX2_endPart 3 none 1 := ⟨by decide +kernel, gT_in 329 (by decide +kernel) rfl, gT_in 330 (by decide +kernel) rfl, gT_in 331 (by decide +kernel) rfl, gT_in 73 (by decide +kernel) rfl, gT_in 332 (by decide +kernel) rfl⟩
theorem cw_X1_61 : CWv RX1 61 RX2 yX2_keep cX2_keep 1 none 0 := ⟨by decide +kernel, gT_in 333 (by decide +kernel) rfl, gT_in 334 (by decide +kernel) rfl, gT_in 335 (by decide +kernel) rfl, gT_in 73 (by decide +kernel) rfl, gT_in 336 (by decide +kernel) rfl⟩
theorem cw_X1_64 : CWv RX1 64 RX1 yX1_readAnd cX1_readAnd 3 none 1 := ⟨by decide +kernel, gT_in 301 (by decide +kernel) rfl, gT_in 303 (by decide +kernel) rfl, gT_in 8 (by decide +kernel) rfl, gT_in 74 (by decide +kernel) rfl, gT_in 304 (by decide +kernel) rfl⟩
theorem fl_X1_67 : FLd RX1 67 1 3 := ⟨RX1, TX1, 8, rfl, by decide, in_X1, rfl, gT_in 151 (by decide +kernel) rfl⟩
theorem cw_X1_70 : CWv RX1 70 RX2 yX2_add cX2_add 2 none 1 := ⟨by decide +kernel, gT_in 313 (by decide +kernel) rfl, gT_in 314 (by decide +kernel) rfl, gT_in 315 (by decide +kernel) rfl, gT_in 73 (by decide +kernel) rfl, gT_in 316 (by decide +kernel) rfl⟩
theorem cw_X1_72 : CWv RX1 72 RX1 yX1_readNot cX1_readNot 3 none 1 := ⟨by decide +kernel, gT_in 305 (by decide +kernel) rfl, gT_in 307 (by decide +kernel) rfl, gT_in 9 (by decide +kernel) rfl, gT_in 74 (by decide +kernel) rfl, gT_in 308 (by decide +kernel) rfl⟩
theorem cw_X1_75 : CWv RX1 75 RX1 yX1_opens cX1_opens 2 (some .boolean) 1 := ⟨by decide +kernel, gT_in 309 (by decide +kernel) rfl, gT_in 311 (by decide +kernel) rfl, gT_in 10 (by decide +kernel) rfl, gT_in 74 (by decide +kernel) rfl, gT_in 312 (by decide +kernel) rfl⟩
theorem cw_X1_78 : CWv RX1 78 RX1 yX1_readSum cX1_readSum 4 none 1 := ⟨by decide +kernel, gT_in 317 (by decide +kernel) rfl, gT_in 319 (by decide +kernel) rfl, gT_in 11 (by decide +kernel) rfl, gT_in 74 (by decide +kernel) rfl, gT_in 320 (by decide +kernel) rfl⟩
theorem cw_X1_81 : CWv RX1 81 RX1 yX1_readTerm cX1_readTerm 3 none 1 := ⟨by decide +kernel, gT_in 321 (by decide +kernel) rfl, gT_in 323 (by decide +kernel) rfl, gT_in 12 (by decide +kernel) rfl, gT_in 74 (by decide +kernel) rfl, gT_in 324 (by decide +kernel) rfl⟩
theorem cw_X1_84 : CWv RX1 84 RX1 yX1_readOne cX1_readOne 2 none 1 := ⟨by decide +kernel, gT_in 325 (by decide +kernel) rfl, gT_in 327 (by decide +kernel) rfl, gT_in 13 (by decide +kernel) rfl, gT_in 74 (by decide +kernel) rfl, gT_in 328 (by decide +kernel) rfl⟩
theorem fl_X1_87 : FLd RX1 87 1 6 := ⟨RX1, TX1, 8, rfl, by decide, in_X1, rfl, gT_in 154 (by decide +kernel) rfl⟩
theorem cw_X1_90 : CWv RX1 90 RX1 yX1_refuse cX1_refuse 1 none 0 := ⟨by decide +kernel, gT_in 293 (by decide +kernel) rfl, gT_in 295 (by decide +kernel) rfl, gT_in 6 (by decide +kernel) rfl, gT_in 74 (by decide +kernel) rfl, gT_in 296 (by decide +kernel) rfl⟩
theorem fl_X1_93 : FLd RX1 93 1 4 := ⟨RX1, TX1, 8, rfl, by decide, in_X1, rfl, gT_in 152 (by decide +kernel) rfl⟩
theorem cw_X1_96 : CWv RX1 96 RX1 yX1_byteAt cX1_byteAt 2 (some .int) 1 := ⟨by decide +kernel, gT_in 238 (by decide +kernel) rfl, gT_in 240 (by decide +kernel) rfl, gT_in 1 (by decide +kernel) rfl, gT_in 74 (by decide +kernel) rfl, gT_in 241 (by decide +kernel) rfl⟩
theorem cw_X1_100 : CWs RX1 100 yX1_isBlank cX1_isBlank 1 (some .boolean) 1 := ⟨by decide +kernel, gT_in 242 (by decide +kernel) rfl, gT_in 243 (by decide +kernel) rfl, gT_in 74 (by decide +kernel) rfl, gT_in 244 (by decide +kernel) rfl⟩
theorem cw_X1_103 : CWs RX1 103 yX1_isWordByte cX1_isWordByte 1 (some .boolean) 1 := ⟨by decide +kernel, gT_in 245 (by decide +kernel) rfl, gT_in 246 (by decide +kernel) rfl, gT_in 74 (by decide +kernel) rfl, gT_in 247 (by decide +kernel) rfl⟩
theorem cw_X1_106 : CWv RX1 106 RX1 yX1_readWord cX1_readWord 2 none 0 := ⟨by decide +kernel, gT_in 248 (by decide +kernel) rfl, gT_in 250 (by decide +kernel) rfl, gT_in 2 (by decide +kernel) rfl, gT_in 74 (by decide +kernel) rfl, gT_in 251 (by decide +kernel) rfl⟩
theorem cw_X1_109 : CWs RX1 109 yX1_isDigit cX1_isDigit 1 (some .boolean) 1 := ⟨by decide +kernel, gT_in 271 (by decide +kernel) rfl, gT_in 272 (by decide +kernel) rfl, gT_in 74 (by decide +kernel) rfl, gT_in 273 (by decide +kernel) rfl⟩
theorem cw_X1_112 : CWv RX1 112 RX1 yX1_readNumber cX1_readNumber 2 none 0 := ⟨by decide +kernel, gT_in 274 (by decide +kernel) rfl, gT_in 276 (by decide +kernel) rfl, gT_in 4 (by decide +kernel) rfl, gT_in 74 (by decide +kernel) rfl, gT_in 277 (by decide +kernel) rfl⟩
theorem cw_X1_115 : CWs RX1 115 yX1_isSign cX1_isSign 1 (some .boolean) 1 := ⟨by decide +kernel, gT_in 278 (by decide +kernel) rfl, gT_in 279 (by decide +kernel) rfl, gT_in 74 (by decide +kernel) rfl, gT_in 280 (by decide +kernel) rfl⟩
theorem cw_X1_118 : CWs RX1 118 yX1_word cX1_word 1 (some (.object "java/lang/String")) 1 := ⟨by decide +kernel, gT_in 252 (by decide +kernel) rfl, gT_in 253 (by decide +kernel) rfl, gT_in 74 (by decide +kernel) rfl, gT_in 254 (by decide +kernel) rfl⟩
theorem cw_X1_122 : CWv RX1 122 RX1 yX1_stands cX1_stands 3 (some .boolean) 1 := ⟨by decide +kernel, gT_in 267 (by decide +kernel) rfl, gT_in 269 (by decide +kernel) rfl, gT_in 3 (by decide +kernel) rfl, gT_in 74 (by decide +kernel) rfl, gT_in 270 (by decide +kernel) rfl⟩
theorem fl_X2_11 : FLd RX2 11 2 7 := ⟨RX2, TX2, 11, rfl, by decide, in_X2, rfl, gT_in 113 (by decide +kernel) rfl⟩
theorem fl_X2_15 : FLd RX2 15 2 8 := ⟨RX2, TX2, 11, rfl, by decide, in_X2, rfl, gT_in 114 (by decide +kernel) rfl⟩
theorem fl_X2_18 : FLd RX2 18 2 10 := ⟨RX2, TX2, 11, rfl, by decide, in_X2, rfl, gT_in 116 (by decide +kernel) rfl⟩
theorem fl_X2_21 : FLd RX2 21 2 0 := ⟨RX2, TX2, 11, rfl, by decide, in_X2, rfl, gT_in 99 (by decide +kernel) rfl⟩
theorem cw_X2_25 : CWv RX2 25 RX2 yX2_hasRoom cX2_hasRoom 1 (some .boolean) 0 := ⟨by decide +kernel, gT_in 285 (by decide +kernel) rfl, gT_in 286 (by decide +kernel) rfl, gT_in 287 (by decide +kernel) rfl, gT_in 73 (by decide +kernel) rfl, gT_in 288 (by decide +kernel) rfl⟩
theorem fl_X2_29 : FLd RX2 29 2 9 := ⟨RX2, TX2, 11, rfl, by decide, in_X2, rfl, gT_in 115 (by decide +kernel) rfl⟩
theorem cw_X2_32 : CWv RX2 32 RX2 yX2_isText cX2_isText 2 (some .boolean) 1 := ⟨by decide +kernel, gT_in 566 (by decide +kernel) rfl, gT_in 567 (by decide +kernel) rfl, gT_in 568 (by decide +kernel) rfl, gT_in 73 (by decide +kernel) rfl, gT_in 569 (by decide +kernel) rfl⟩
theorem cm_X2_36 : Cond.methodLink RX2 36 Lib.Math.max.name ∈ gT ∧ Cond.static Lib.Math.max.name ∈ gT ∧ Cond.initialized "java/lang/Math" ∈ gT ∧ Cond.code Lib.Math.max.name Lib.Math.max.code 2 (some .int) ∈ gT := ⟨gT_in 570 (by decide +kernel) rfl, gT_in 571 (by decide +kernel) rfl, gT_in 83 (by decide +kernel) rfl, gT_in 572 (by decide +kernel) rfl⟩
theorem cw_X2_42 : CWv RX2 42 RX2 yX2_named cX2_named 2 (some .int) 1 := ⟨by decide +kernel, gT_in 573 (by decide +kernel) rfl, gT_in 575 (by decide +kernel) rfl, gT_in 17 (by decide +kernel) rfl, gT_in 73 (by decide +kernel) rfl, gT_in 576 (by decide +kernel) rfl⟩
theorem cw_X2_46 : CWs RX2 46 yX2_joined cX2_joined 3 (some .int) 3 := ⟨by decide +kernel, gT_in 577 (by decide +kernel) rfl, gT_in 578 (by decide +kernel) rfl, gT_in 73 (by decide +kernel) rfl, gT_in 579 (by decide +kernel) rfl⟩
theorem fl_X2_50 : FLd RX2 50 2 1 := ⟨RX2, TX2, 11, rfl, by decide, in_X2, rfl, gT_in 101 (by decide +kernel) rfl⟩
theorem fl_X2_53 : FLd RX2 53 2 2 := ⟨RX2, TX2, 11, rfl, by decide, in_X2, rfl, gT_in 103 (by decide +kernel) rfl⟩
theorem fl_X2_56 : FLd RX2 56 2 3 := ⟨RX2, TX2, 11, rfl, by decide, in_X2, rfl, gT_in 105 (by decide +kernel) rfl⟩
theorem fl_X2_59 : FLd RX2 59 2 4 := ⟨RX2, TX2, 11, rfl, by decide, in_X2, rfl, gT_in 107 (by decide +kernel) rfl⟩
theorem fl_X2_62 : FLd RX2 62 2 5 := ⟨RX2, TX2, 11, rfl, by decide, in_X2, rfl, gT_in 109 (by decide +kernel) rfl⟩
theorem fl_X2_65 : FLd RX2 65 2 6 := ⟨RX2, TX2, 11, rfl, by decide, in_X2, rfl, gT_in 111 (by decide +kernel) rfl⟩
theorem fl_X3_9 : FLd RX3 9 3 2 := ⟨RX3, TX3, 15, rfl, by decide, in_X3, rfl, gT_in 346 (by decide +kernel) rfl⟩
theorem fl_X3_15 : FLd RX3 15 3 7 := ⟨RX3, TX3, 15, rfl, by decide, in_X3, rfl, gT_in 356 (by decide +kernel) rfl⟩
theorem fl_X3_19 : FLd RX3 19 3 8 := ⟨RX3, TX3, 15, rfl, by decide, in_X3, rfl, gT_in 357 (by decide +kernel) rfl⟩
theorem fl_X3_22 : FLd RX3 22 3 9 := ⟨RX3, TX3, 15, rfl, by decide, in_X3, rfl, gT_in 358 (by decide +kernel) rfl⟩
theorem fl_X3_25 : FLd RX3 25 3 10 := ⟨RX3, TX3, 15, rfl, by decide, in_X3, rfl, gT_in 359 (by decide +kernel) rfl⟩
theorem fl_X3_28 : FLd RX3 28 3 11 := ⟨RX3, TX3, 15, rfl, by decide, in_X3, rfl, gT_in 360 (by decide +kernel) rfl⟩
theorem fl_X3_31 : FLd RX3 31 3 12 := ⟨RX3, TX3, 15, rfl, by decide, in_X3, rfl, gT_in 361 (by decide +kernel) rfl⟩
theorem fl_X3_34 : FLd RX3 34 3 13 := ⟨RX3, TX3, 15, rfl, by decide, in_X3, rfl, gT_in 362 (by decide +kernel) rfl⟩
theorem fl_X3_37 : FLd RX3 37 3 14 := ⟨RX3, TX3, 15, rfl, by decide, in_X3, rfl, gT_in 363 (by decide +kernel) rfl⟩
theorem fl_X3_40 : FLd RX3 40 3 0 := ⟨RX3, TX3, 15, rfl, by decide, in_X3, rfl, gT_in 343 (by decide +kernel) rfl⟩
theorem fl_X3_44 : FLd RX3 44 3 1 := ⟨RX3, TX3, 15, rfl, by decide, in_X3, rfl, gT_in 344 (by decide +kernel) rfl⟩
theorem fl_X3_47 : FLd RX3 47 3 3 := ⟨RX3, TX3, 15, rfl, by decide, in_X3, rfl, gT_in 348 (by decide +kernel) rfl⟩
theorem fl_X3_50 : FLd RX3 50 3 4 := ⟨RX3, TX3, 15, rfl, by decide, in_X3, rfl, gT_in 350 (by decide +kernel) rfl⟩
theorem fl_X3_53 : FLd RX3 53 3 5 := ⟨RX3, TX3, 15, rfl, by decide, in_X3, rfl, gT_in 352 (by decide +kernel) rfl⟩
theorem fl_X3_56 : FLd RX3 56 3 6 := ⟨RX3, TX3, 15, rfl, by decide, in_X3, rfl, gT_in 354 (by decide +kernel) rfl⟩
theorem cw_X3_59 : CWv RX3 59 RX3 yX3_isOne cX3_isOne 2 (some .boolean) 1 := ⟨by decide +kernel, gT_in 491 (by decide +kernel) rfl, gT_in 480 (by decide +kernel) rfl, gT_in 481 (by decide +kernel) rfl, gT_in 79 (by decide +kernel) rfl, gT_in 482 (by decide +kernel) rfl⟩
theorem cw_X3_63 : CWv RX3 63 RX3 yX3_isLetter cX3_isLetter 2 (some .boolean) 1 := ⟨by decide +kernel, gT_in 462 (by decide +kernel) rfl, gT_in 451 (by decide +kernel) rfl, gT_in 452 (by decide +kernel) rfl, gT_in 79 (by decide +kernel) rfl, gT_in 453 (by decide +kernel) rfl⟩
theorem cw_X3_66 : CWv RX3 66 RX3 yX3_houseOf cX3_houseOf 2 (some .int) 1 := ⟨by decide +kernel, gT_in 553 (by decide +kernel) rfl, gT_in 497 (by decide +kernel) rfl, gT_in 498 (by decide +kernel) rfl, gT_in 79 (by decide +kernel) rfl, gT_in 499 (by decide +kernel) rfl⟩
theorem cw_X3_70 : CWv RX3 70 RX3 yX3_toneWritten cX3_toneWritten 3 (some .int) 1 := ⟨by decide +kernel, gT_in 622 (by decide +kernel) rfl, gT_in 596 (by decide +kernel) rfl, gT_in 597 (by decide +kernel) rfl, gT_in 79 (by decide +kernel) rfl, gT_in 598 (by decide +kernel) rfl⟩
theorem cw_X3_73 : CWv RX3 73 RX3 yX3_goesDown cX3_goesDown 3 (some .boolean) 1 := ⟨by decide +kernel, gT_in 631 (by decide +kernel) rfl, gT_in 633 (by decide +kernel) rfl, gT_in 18 (by decide +kernel) rfl, gT_in 79 (by decide +kernel) rfl, gT_in 634 (by decide +kernel) rfl⟩
theorem cw_X3_76 : CWv RX3 76 RX3 yX3_passDay cX3_passDay 3 (some .int) 0 := ⟨by decide +kernel, gT_in 650 (by decide +kernel) rfl, gT_in 628 (by decide +kernel) rfl, gT_in 629 (by decide +kernel) rfl, gT_in 79 (by decide +kernel) rfl, gT_in 630 (by decide +kernel) rfl⟩
theorem cw_X3_80 : CWv RX3 80 RX3 yX3_passDayOf cX3_passDayOf 2 none 1 := ⟨by decide +kernel, gT_in 705 (by decide +kernel) rfl, gT_in 660 (by decide +kernel) rfl, gT_in 661 (by decide +kernel) rfl, gT_in 79 (by decide +kernel) rfl, gT_in 662 (by decide +kernel) rfl⟩
theorem cw_X3_84 : CWv RX3 84 RX3 yX3_readBy cX3_readBy 2 (some .int) 1 := ⟨by decide +kernel, gT_in 555 (by decide +kernel) rfl, gT_in 476 (by decide +kernel) rfl, gT_in 477 (by decide +kernel) rfl, gT_in 79 (by decide +kernel) rfl, gT_in 478 (by decide +kernel) rfl⟩
theorem fl_X3_87 : FLd RX3 87 0 1 := ⟨RX0, TX0, 3, rfl, by decide, in_X0, rfl, gT_in 406 (by decide +kernel) rfl⟩
theorem cw_X3_92 : CWv RX3 92 RX3 yX3_whereIs cX3_whereIs 2 (some .int) 1 := ⟨by decide +kernel, gT_in 738 (by decide +kernel) rfl, gT_in 472 (by decide +kernel) rfl, gT_in 473 (by decide +kernel) rfl, gT_in 79 (by decide +kernel) rfl, gT_in 474 (by decide +kernel) rfl⟩
theorem cw_X3_95 : CWv RX3 95 RX0 yX0_item cX0_item 2 (some .int) 1 := ⟨by decide +kernel, gT_in 739 (by decide +kernel) rfl, gT_in 740 (by decide +kernel) rfl, gT_in 741 (by decide +kernel) rfl, gT_in 80 (by decide +kernel) rfl, gT_in 742 (by decide +kernel) rfl⟩
theorem cw_X3_98 : CWv RX3 98 RX3 yX3_livesIn cX3_livesIn 3 (some .int) 1 := ⟨by decide +kernel, gT_in 635 (by decide +kernel) rfl, gT_in 520 (by decide +kernel) rfl, gT_in 521 (by decide +kernel) rfl, gT_in 79 (by decide +kernel) rfl, gT_in 522 (by decide +kernel) rfl⟩
theorem cw_X3_101 : CWv RX3 101 RX3 yX3_carries cX3_carries 6 (some .boolean) 2 := ⟨by decide +kernel, gT_in 636 (by decide +kernel) rfl, gT_in 588 (by decide +kernel) rfl, gT_in 589 (by decide +kernel) rfl, gT_in 79 (by decide +kernel) rfl, gT_in 590 (by decide +kernel) rfl⟩
theorem cw_X3_105 : CWv RX3 105 RX3 yX3_softens cX3_softens 4 (some .int) 2 := ⟨by decide +kernel, gT_in 637 (by decide +kernel) rfl, gT_in 545 (by decide +kernel) rfl, gT_in 546 (by decide +kernel) rfl, gT_in 79 (by decide +kernel) rfl, gT_in 547 (by decide +kernel) rfl⟩
theorem cw_X3_109 : CWs RX3 109 yX3_bounded cX3_bounded 2 (some .int) 2 := ⟨by decide +kernel, gT_in 580 (by decide +kernel) rfl, gT_in 581 (by decide +kernel) rfl, gT_in 79 (by decide +kernel) rfl, gT_in 582 (by decide +kernel) rfl⟩
theorem cw_X3_114 : CWv RX3 114 RX3 yX3_ruled cX3_ruled 4 (some .int) 3 := ⟨by decide +kernel, gT_in 548 (by decide +kernel) rfl, gT_in 550 (by decide +kernel) rfl, gT_in 16 (by decide +kernel) rfl, gT_in 79 (by decide +kernel) rfl, gT_in 551 (by decide +kernel) rfl⟩
theorem cw_X3_118 : CWv RX3 118 RX3 yX3_toneOf cX3_toneOf 2 (some .int) 1 := ⟨by decide +kernel, gT_in 552 (by decide +kernel) rfl, gT_in 459 (by decide +kernel) rfl, gT_in 460 (by decide +kernel) rfl, gT_in 79 (by decide +kernel) rfl, gT_in 461 (by decide +kernel) rfl⟩
theorem fl_X3_121 : FLd RX3 121 2 1 := ⟨RX2, TX2, 11, rfl, by decide, in_X2, rfl, gT_in 102 (by decide +kernel) rfl⟩
theorem fl_X3_123 : FLd RX3 123 2 2 := ⟨RX2, TX2, 11, rfl, by decide, in_X2, rfl, gT_in 104 (by decide +kernel) rfl⟩
theorem cw_X3_125 : CWv RX3 125 RX3 yX3_numberOf cX3_numberOf 2 (some .int) 1 := ⟨by decide +kernel, gT_in 554 (by decide +kernel) rfl, gT_in 488 (by decide +kernel) rfl, gT_in 489 (by decide +kernel) rfl, gT_in 79 (by decide +kernel) rfl, gT_in 490 (by decide +kernel) rfl⟩
theorem fl_X3_128 : FLd RX3 128 2 3 := ⟨RX2, TX2, 11, rfl, by decide, in_X2, rfl, gT_in 106 (by decide +kernel) rfl⟩
theorem fl_X3_130 : FLd RX3 130 2 4 := ⟨RX2, TX2, 11, rfl, by decide, in_X2, rfl, gT_in 108 (by decide +kernel) rfl⟩
theorem cw_X3_131 : CWs RX3 131 yJ6_bitCount_0f7a4 cJ6_bitCount_0f7a4 1 (some .int) 1 := ⟨by decide +kernel, gT_in 556 (by decide +kernel) rfl, gT_in 557 (by decide +kernel) rfl, gT_in 82 (by decide +kernel) rfl, gT_in 558 (by decide +kernel) rfl⟩
theorem fl_X3_136 : FLd RX3 136 2 5 := ⟨RX2, TX2, 11, rfl, by decide, in_X2, rfl, gT_in 110 (by decide +kernel) rfl⟩
theorem fl_X3_138 : FLd RX3 138 2 6 := ⟨RX2, TX2, 11, rfl, by decide, in_X2, rfl, gT_in 112 (by decide +kernel) rfl⟩
theorem cw_X3_141 : CWv RX3 141 RX2 yX2_value cX2_value 10 (some .int) 2 := ⟨by decide +kernel, gT_in 562 (by decide +kernel) rfl, gT_in 563 (by decide +kernel) rfl, gT_in 564 (by decide +kernel) rfl, gT_in 73 (by decide +kernel) rfl, gT_in 565 (by decide +kernel) rfl⟩
theorem cm_X3_144 : Cond.methodLink RX3 144 Lib.Math.min.name ∈ gT ∧ Cond.static Lib.Math.min.name ∈ gT ∧ Cond.initialized "java/lang/Math" ∈ gT ∧ Cond.code Lib.Math.min.name Lib.Math.min.code 2 (some .int) ∈ gT := ⟨gT_in 583 (by decide +kernel) rfl, gT_in 584 (by decide +kernel) rfl, gT_in 83 (by decide +kernel) rfl, gT_in 585 (by decide +kernel) rfl⟩
theorem cm_X3_149 : Cond.methodLink RX3 149 Lib.Math.max.name ∈ gT ∧ Cond.static Lib.Math.max.name ∈ gT ∧ Cond.initialized "java/lang/Math" ∈ gT ∧ Cond.code Lib.Math.max.name Lib.Math.max.code 2 (some .int) ∈ gT := ⟨gT_in 586 (by decide +kernel) rfl, gT_in 571 (by decide +kernel) rfl, gT_in 83 (by decide +kernel) rfl, gT_in 572 (by decide +kernel) rfl⟩
theorem fl_X4_10 : FLd RX4 10 4 0 := ⟨RX4, TX4, 8, rfl, by decide, in_X4, rfl, gT_in 417 (by decide +kernel) rfl⟩
theorem fl_X4_21 : FLd RX4 21 4 1 := ⟨RX4, TX4, 8, rfl, by decide, in_X4, rfl, gT_in 418 (by decide +kernel) rfl⟩
theorem cw_X4_27 : CWv RX4 27 RX1 yX1_addAll cX1_addAll 3 none 1 := ⟨by decide +kernel, gT_in 174 (by decide +kernel) rfl, gT_in 175 (by decide +kernel) rfl, gT_in 176 (by decide +kernel) rfl, gT_in 74 (by decide +kernel) rfl, gT_in 177 (by decide +kernel) rfl⟩
theorem cw_X4_31 : CWv RX4 31 RX1 yX1_read cX1_read 2 (some .int) 0 := ⟨by decide +kernel, gT_in 230 (by decide +kernel) rfl, gT_in 231 (by decide +kernel) rfl, gT_in 232 (by decide +kernel) rfl, gT_in 74 (by decide +kernel) rfl, gT_in 233 (by decide +kernel) rfl⟩
theorem fl_X4_38 : FLd RX4 38 4 2 := ⟨RX4, TX4, 8, rfl, by decide, in_X4, rfl, gT_in 419 (by decide +kernel) rfl⟩
theorem fl_X4_42 : FLd RX4 42 4 3 := ⟨RX4, TX4, 8, rfl, by decide, in_X4, rfl, gT_in 420 (by decide +kernel) rfl⟩
theorem fl_X4_45 : FLd RX4 45 4 4 := ⟨RX4, TX4, 8, rfl, by decide, in_X4, rfl, gT_in 421 (by decide +kernel) rfl⟩
theorem fl_X4_48 : FLd RX4 48 4 7 := ⟨RX4, TX4, 8, rfl, by decide, in_X4, rfl, gT_in 424 (by decide +kernel) rfl⟩
theorem fl_X4_54 : FLd RX4 54 4 6 := ⟨RX4, TX4, 8, rfl, by decide, in_X4, rfl, gT_in 423 (by decide +kernel) rfl⟩
theorem cw_X4_59 : CWv RX4 59 RX4 yX4_told cX4_told 3 (some .int) 2 := ⟨by decide +kernel, gT_in 446 (by decide +kernel) rfl, gT_in 447 (by decide +kernel) rfl, gT_in 448 (by decide +kernel) rfl, gT_in 72 (by decide +kernel) rfl, gT_in 449 (by decide +kernel) rfl⟩
theorem cw_X4_63 : CWs RX4 63 yX4_greatest cX4_greatest 1 (some .int) 1 := ⟨by decide +kernel, gT_in 504 (by decide +kernel) rfl, gT_in 505 (by decide +kernel) rfl, gT_in 72 (by decide +kernel) rfl, gT_in 506 (by decide +kernel) rfl⟩
theorem fl_X4_67 : FLd RX4 67 3 1 := ⟨RX3, TX3, 15, rfl, by decide, in_X3, rfl, gT_in 345 (by decide +kernel) rfl⟩
theorem fl_X4_71 : FLd RX4 71 3 2 := ⟨RX3, TX3, 15, rfl, by decide, in_X3, rfl, gT_in 347 (by decide +kernel) rfl⟩
theorem cw_X4_74 : CWv RX4 74 RX3 yX3_changeNumber cX3_changeNumber 3 none 2 := ⟨by decide +kernel, gT_in 507 (by decide +kernel) rfl, gT_in 508 (by decide +kernel) rfl, gT_in 509 (by decide +kernel) rfl, gT_in 79 (by decide +kernel) rfl, gT_in 510 (by decide +kernel) rfl⟩
theorem cw_X4_78 : CWv RX4 78 RX3 yX3_changeTone cX3_changeTone 3 none 2 := ⟨by decide +kernel, gT_in 511 (by decide +kernel) rfl, gT_in 512 (by decide +kernel) rfl, gT_in 513 (by decide +kernel) rfl, gT_in 79 (by decide +kernel) rfl, gT_in 514 (by decide +kernel) rfl⟩
theorem cw_X4_81 : CWv RX4 81 RX3 yX3_livesIn cX3_livesIn 3 (some .int) 1 := ⟨by decide +kernel, gT_in 519 (by decide +kernel) rfl, gT_in 520 (by decide +kernel) rfl, gT_in 521 (by decide +kernel) rfl, gT_in 79 (by decide +kernel) rfl, gT_in 522 (by decide +kernel) rfl⟩
theorem cw_X4_84 : CWv RX4 84 RX3 yX3_comesToLive cX3_comesToLive 5 (some .int) 3 := ⟨by decide +kernel, gT_in 523 (by decide +kernel) rfl, gT_in 524 (by decide +kernel) rfl, gT_in 525 (by decide +kernel) rfl, gT_in 79 (by decide +kernel) rfl, gT_in 526 (by decide +kernel) rfl⟩
theorem cw_X4_88 : CWv RX4 88 RX3 yX3_areTwo cX3_areTwo 3 (some .boolean) 2 := ⟨by decide +kernel, gT_in 531 (by decide +kernel) rfl, gT_in 532 (by decide +kernel) rfl, gT_in 533 (by decide +kernel) rfl, gT_in 79 (by decide +kernel) rfl, gT_in 534 (by decide +kernel) rfl⟩
theorem cw_X4_92 : CWv RX4 92 RX3 yX3_houseOf cX3_houseOf 2 (some .int) 1 := ⟨by decide +kernel, gT_in 496 (by decide +kernel) rfl, gT_in 497 (by decide +kernel) rfl, gT_in 498 (by decide +kernel) rfl, gT_in 79 (by decide +kernel) rfl, gT_in 499 (by decide +kernel) rfl⟩
theorem cw_X4_95 : CWv RX4 95 RX3 yX3_moveTo cX3_moveTo 3 none 2 := ⟨by decide +kernel, gT_in 535 (by decide +kernel) rfl, gT_in 536 (by decide +kernel) rfl, gT_in 537 (by decide +kernel) rfl, gT_in 79 (by decide +kernel) rfl, gT_in 538 (by decide +kernel) rfl⟩
theorem cw_X4_98 : CWv RX4 98 RX3 yX3_isLetter cX3_isLetter 2 (some .boolean) 1 := ⟨by decide +kernel, gT_in 450 (by decide +kernel) rfl, gT_in 451 (by decide +kernel) rfl, gT_in 452 (by decide +kernel) rfl, gT_in 79 (by decide +kernel) rfl, gT_in 453 (by decide +kernel) rfl⟩
theorem cw_X4_102 : CWv RX4 102 RX4 yX4_toldOfLetter cX4_toldOfLetter 3 (some .int) 2 := ⟨by decide +kernel, gT_in 454 (by decide +kernel) rfl, gT_in 456 (by decide +kernel) rfl, gT_in 14 (by decide +kernel) rfl, gT_in 72 (by decide +kernel) rfl, gT_in 457 (by decide +kernel) rfl⟩
theorem cw_X4_105 : CWv RX4 105 RX3 yX3_isOne cX3_isOne 2 (some .boolean) 1 := ⟨by decide +kernel, gT_in 479 (by decide +kernel) rfl, gT_in 480 (by decide +kernel) rfl, gT_in 481 (by decide +kernel) rfl, gT_in 79 (by decide +kernel) rfl, gT_in 482 (by decide +kernel) rfl⟩
theorem cw_X4_108 : CWv RX4 108 RX4 yX4_toldOfOne cX4_toldOfOne 3 (some .int) 2 := ⟨by decide +kernel, gT_in 483 (by decide +kernel) rfl, gT_in 485 (by decide +kernel) rfl, gT_in 15 (by decide +kernel) rfl, gT_in 72 (by decide +kernel) rfl, gT_in 486 (by decide +kernel) rfl⟩
theorem cw_X4_111 : CWv RX4 111 RX3 yX3_softens cX3_softens 4 (some .int) 2 := ⟨by decide +kernel, gT_in 544 (by decide +kernel) rfl, gT_in 545 (by decide +kernel) rfl, gT_in 546 (by decide +kernel) rfl, gT_in 79 (by decide +kernel) rfl, gT_in 547 (by decide +kernel) rfl⟩
theorem cw_X4_114 : CWv RX4 114 RX3 yX3_carries cX3_carries 6 (some .boolean) 2 := ⟨by decide +kernel, gT_in 587 (by decide +kernel) rfl, gT_in 588 (by decide +kernel) rfl, gT_in 589 (by decide +kernel) rfl, gT_in 79 (by decide +kernel) rfl, gT_in 590 (by decide +kernel) rfl⟩
theorem cw_X4_117 : CWv RX4 117 RX3 yX3_toneWritten cX3_toneWritten 3 (some .int) 1 := ⟨by decide +kernel, gT_in 595 (by decide +kernel) rfl, gT_in 596 (by decide +kernel) rfl, gT_in 597 (by decide +kernel) rfl, gT_in 79 (by decide +kernel) rfl, gT_in 598 (by decide +kernel) rfl⟩
theorem cw_X4_120 : CWv RX4 120 RX3 yX3_numberOf cX3_numberOf 2 (some .int) 1 := ⟨by decide +kernel, gT_in 487 (by decide +kernel) rfl, gT_in 488 (by decide +kernel) rfl, gT_in 489 (by decide +kernel) rfl, gT_in 79 (by decide +kernel) rfl, gT_in 490 (by decide +kernel) rfl⟩
theorem cw_X4_123 : CWv RX4 123 RX3 yX3_kindOf cX3_kindOf 2 (some .int) 1 := ⟨by decide +kernel, gT_in 492 (by decide +kernel) rfl, gT_in 493 (by decide +kernel) rfl, gT_in 494 (by decide +kernel) rfl, gT_in 79 (by decide +kernel) rfl, gT_in 495 (by decide +kernel) rfl⟩
theorem cw_X4_126 : CWv RX4 126 RX3 yX3_known cX3_known 4 (some .int) 1 := ⟨by decide +kernel, gT_in 500 (by decide +kernel) rfl, gT_in 501 (by decide +kernel) rfl, gT_in 502 (by decide +kernel) rfl, gT_in 79 (by decide +kernel) rfl, gT_in 503 (by decide +kernel) rfl⟩
theorem cw_X4_129 : CWv RX4 129 RX3 yX3_toneOf cX3_toneOf 2 (some .int) 1 := ⟨by decide +kernel, gT_in 458 (by decide +kernel) rfl, gT_in 459 (by decide +kernel) rfl, gT_in 460 (by decide +kernel) rfl, gT_in 79 (by decide +kernel) rfl, gT_in 461 (by decide +kernel) rfl⟩
theorem cw_X4_132 : CWv RX4 132 RX3 yX3_fromWhom cX3_fromWhom 2 (some .int) 1 := ⟨by decide +kernel, gT_in 463 (by decide +kernel) rfl, gT_in 464 (by decide +kernel) rfl, gT_in 465 (by decide +kernel) rfl, gT_in 79 (by decide +kernel) rfl, gT_in 466 (by decide +kernel) rfl⟩
theorem cw_X4_135 : CWv RX4 135 RX3 yX3_toWhom cX3_toWhom 2 (some .int) 1 := ⟨by decide +kernel, gT_in 467 (by decide +kernel) rfl, gT_in 468 (by decide +kernel) rfl, gT_in 469 (by decide +kernel) rfl, gT_in 79 (by decide +kernel) rfl, gT_in 470 (by decide +kernel) rfl⟩
theorem cw_X4_138 : CWv RX4 138 RX3 yX3_whereIs cX3_whereIs 2 (some .int) 1 := ⟨by decide +kernel, gT_in 471 (by decide +kernel) rfl, gT_in 472 (by decide +kernel) rfl, gT_in 473 (by decide +kernel) rfl, gT_in 79 (by decide +kernel) rfl, gT_in 474 (by decide +kernel) rfl⟩
theorem cw_X4_141 : CWv RX4 141 RX3 yX3_readBy cX3_readBy 2 (some .int) 1 := ⟨by decide +kernel, gT_in 475 (by decide +kernel) rfl, gT_in 476 (by decide +kernel) rfl, gT_in 477 (by decide +kernel) rfl, gT_in 79 (by decide +kernel) rfl, gT_in 478 (by decide +kernel) rfl⟩
theorem cw_X4_144 : CWv RX4 144 RX1 yX1_add cX1_add 2 (some .boolean) 1 := ⟨by decide +kernel, gT_in 603 (by decide +kernel) rfl, gT_in 227 (by decide +kernel) rfl, gT_in 228 (by decide +kernel) rfl, gT_in 74 (by decide +kernel) rfl, gT_in 229 (by decide +kernel) rfl⟩
theorem fl_X4_147 : FLd RX4 147 1 0 := ⟨RX1, TX1, 8, rfl, by decide, in_X1, rfl, gT_in 148 (by decide +kernel) rfl⟩
theorem cw_X4_150 : CWv RX4 150 RX2 yX2_hasRoom cX2_hasRoom 1 (some .boolean) 0 := ⟨by decide +kernel, gT_in 608 (by decide +kernel) rfl, gT_in 286 (by decide +kernel) rfl, gT_in 287 (by decide +kernel) rfl, gT_in 73 (by decide +kernel) rfl, gT_in 288 (by decide +kernel) rfl⟩
theorem fl_X4_154 : FLd RX4 154 2 0 := ⟨RX2, TX2, 11, rfl, by decide, in_X2, rfl, gT_in 100 (by decide +kernel) rfl⟩
theorem cw_X4_155 : CWv RX4 155 RX2 yX2_isText cX2_isText 2 (some .boolean) 1 := ⟨by decide +kernel, gT_in 613 (by decide +kernel) rfl, gT_in 567 (by decide +kernel) rfl, gT_in 568 (by decide +kernel) rfl, gT_in 73 (by decide +kernel) rfl, gT_in 569 (by decide +kernel) rfl⟩
theorem fl_X4_158 : FLd RX4 158 3 3 := ⟨RX3, TX3, 15, rfl, by decide, in_X3, rfl, gT_in 349 (by decide +kernel) rfl⟩
theorem cw_X4_161 : CWv RX4 161 RX3 yX3_post cX3_post 4 (some .int) 2 := ⟨by decide +kernel, gT_in 618 (by decide +kernel) rfl, gT_in 619 (by decide +kernel) rfl, gT_in 620 (by decide +kernel) rfl, gT_in 79 (by decide +kernel) rfl, gT_in 621 (by decide +kernel) rfl⟩
theorem cw_X4_164 : CWv RX4 164 RX3 yX3_passDay cX3_passDay 3 (some .int) 0 := ⟨by decide +kernel, gT_in 627 (by decide +kernel) rfl, gT_in 628 (by decide +kernel) rfl, gT_in 629 (by decide +kernel) rfl, gT_in 79 (by decide +kernel) rfl, gT_in 630 (by decide +kernel) rfl⟩
theorem cw_X4_167 : CWv RX4 167 RX3 yX3_takeOver cX3_takeOver 3 none 1 := ⟨by decide +kernel, gT_in 642 (by decide +kernel) rfl, gT_in 643 (by decide +kernel) rfl, gT_in 644 (by decide +kernel) rfl, gT_in 79 (by decide +kernel) rfl, gT_in 645 (by decide +kernel) rfl⟩
theorem cw_X4_171 : CWv RX4 171 RX3 yX3_passDays cX3_passDays 3 none 1 := ⟨by decide +kernel, gT_in 646 (by decide +kernel) rfl, gT_in 647 (by decide +kernel) rfl, gT_in 648 (by decide +kernel) rfl, gT_in 79 (by decide +kernel) rfl, gT_in 649 (by decide +kernel) rfl⟩
theorem cw_X4_175 : CWv RX4 175 RX3 yX3_homes cX3_homes 3 (some .int) 0 := ⟨by decide +kernel, gT_in 651 (by decide +kernel) rfl, gT_in 652 (by decide +kernel) rfl, gT_in 653 (by decide +kernel) rfl, gT_in 79 (by decide +kernel) rfl, gT_in 654 (by decide +kernel) rfl⟩
theorem cw_X4_178 : CWv RX4 178 RX3 yX3_passDayOf cX3_passDayOf 2 none 1 := ⟨by decide +kernel, gT_in 659 (by decide +kernel) rfl, gT_in 660 (by decide +kernel) rfl, gT_in 661 (by decide +kernel) rfl, gT_in 79 (by decide +kernel) rfl, gT_in 662 (by decide +kernel) rfl⟩
theorem cw_X4_181 : CWv RX4 181 RX3 yX3_slipAll cX3_slipAll 3 none 1 := ⟨by decide +kernel, gT_in 667 (by decide +kernel) rfl, gT_in 668 (by decide +kernel) rfl, gT_in 669 (by decide +kernel) rfl, gT_in 79 (by decide +kernel) rfl, gT_in 670 (by decide +kernel) rfl⟩
theorem cw_X4_184 : CWv RX4 184 RX4 yX4_firstWay cX4_firstWay 3 none 0 := ⟨by decide +kernel, gT_in 675 (by decide +kernel) rfl, gT_in 677 (by decide +kernel) rfl, gT_in 19 (by decide +kernel) rfl, gT_in 72 (by decide +kernel) rfl, gT_in 678 (by decide +kernel) rfl⟩
theorem cw_X4_187 : CWv RX4 187 RX4 yX4_moveByWay cX4_moveByWay 2 none 0 := ⟨by decide +kernel, gT_in 679 (by decide +kernel) rfl, gT_in 681 (by decide +kernel) rfl, gT_in 20 (by decide +kernel) rfl, gT_in 72 (by decide +kernel) rfl, gT_in 682 (by decide +kernel) rfl⟩
theorem cw_X4_190 : CWv RX4 190 RX4 yX4_digitsOfWay cX4_digitsOfWay 3 (some .int) 0 := ⟨by decide +kernel, gT_in 683 (by decide +kernel) rfl, gT_in 685 (by decide +kernel) rfl, gT_in 21 (by decide +kernel) rfl, gT_in 72 (by decide +kernel) rfl, gT_in 686 (by decide +kernel) rfl⟩
theorem cw_X4_193 : CWv RX4 193 RX4 yX4_nextWay cX4_nextWay 6 (some .boolean) 0 := ⟨by decide +kernel, gT_in 687 (by decide +kernel) rfl, gT_in 689 (by decide +kernel) rfl, gT_in 22 (by decide +kernel) rfl, gT_in 72 (by decide +kernel) rfl, gT_in 690 (by decide +kernel) rfl⟩
theorem fl_X4_196 : FLd RX4 196 3 4 := ⟨RX3, TX3, 15, rfl, by decide, in_X3, rfl, gT_in 351 (by decide +kernel) rfl⟩
theorem cw_X4_199 : CWs RX4 199 yJ6_bitCount_0f7a4 cJ6_bitCount_0f7a4 1 (some .int) 1 := ⟨by decide +kernel, gT_in 700 (by decide +kernel) rfl, gT_in 557 (by decide +kernel) rfl, gT_in 82 (by decide +kernel) rfl, gT_in 558 (by decide +kernel) rfl⟩
theorem fl_X4_204 : FLd RX4 204 3 6 := ⟨RX3, TX3, 15, rfl, by decide, in_X3, rfl, gT_in 355 (by decide +kernel) rfl⟩
theorem cw_X4_207 : CWv RX4 207 RX3 yX3_readBehind cX3_readBehind 4 (some .int) 2 := ⟨by decide +kernel, gT_in 701 (by decide +kernel) rfl, gT_in 702 (by decide +kernel) rfl, gT_in 703 (by decide +kernel) rfl, gT_in 79 (by decide +kernel) rfl, gT_in 704 (by decide +kernel) rfl⟩
theorem cw_X4_210 : CWv RX4 210 RX3 yX3_hasRoom cX3_hasRoom 1 (some .boolean) 0 := ⟨by decide +kernel, gT_in 710 (by decide +kernel) rfl, gT_in 711 (by decide +kernel) rfl, gT_in 712 (by decide +kernel) rfl, gT_in 79 (by decide +kernel) rfl, gT_in 713 (by decide +kernel) rfl⟩
theorem fl_X4_211 : FLd RX4 211 3 5 := ⟨RX3, TX3, 15, rfl, by decide, in_X3, rfl, gT_in 353 (by decide +kernel) rfl⟩
theorem cc_X4_214 : Cond.constantLong RX4 214 (-4611686018427387904) ∈ gT := gT_in 718 (by decide +kernel) rfl
theorem cw_X4_216 : CWs RX4 216 yX4_inLowestTerms cX4_inLowestTerms 7 (some .long) 3 := ⟨by decide +kernel, gT_in 719 (by decide +kernel) rfl, gT_in 720 (by decide +kernel) rfl, gT_in 72 (by decide +kernel) rfl, gT_in 721 (by decide +kernel) rfl⟩
theorem cm_X4_220 : Cond.methodLink RX4 220 Lib.Math.min.name ∈ gT ∧ Cond.static Lib.Math.min.name ∈ gT ∧ Cond.initialized "java/lang/Math" ∈ gT ∧ Cond.code Lib.Math.min.name Lib.Math.min.code 2 (some .int) ∈ gT := ⟨gT_in 691 (by decide +kernel) rfl, gT_in 584 (by decide +kernel) rfl, gT_in 83 (by decide +kernel) rfl, gT_in 585 (by decide +kernel) rfl⟩
theorem cw_X4_225 : CWv RX4 225 RX4 yX4_exchange cX4_exchange 4 none 2 := ⟨by decide +kernel, gT_in 692 (by decide +kernel) rfl, gT_in 694 (by decide +kernel) rfl, gT_in 23 (by decide +kernel) rfl, gT_in 72 (by decide +kernel) rfl, gT_in 695 (by decide +kernel) rfl⟩
theorem cw_X4_228 : CWv RX4 228 RX4 yX4_sheetNumbered cX4_sheetNumbered 2 (some (.object "NextHouseUp$Sheet")) 1 := ⟨by decide +kernel, gT_in 726 (by decide +kernel) rfl, gT_in 728 (by decide +kernel) rfl, gT_in 24 (by decide +kernel) rfl, gT_in 72 (by decide +kernel) rfl, gT_in 729 (by decide +kernel) rfl⟩
theorem cw_X4_232 : CWv RX4 232 RX0 yX0_isMissing cX0_isMissing 1 (some .boolean) 0 := ⟨by decide +kernel, gT_in 730 (by decide +kernel) rfl, gT_in 731 (by decide +kernel) rfl, gT_in 732 (by decide +kernel) rfl, gT_in 80 (by decide +kernel) rfl, gT_in 733 (by decide +kernel) rfl⟩
theorem fl_X4_235 : FLd RX4 235 0 1 := ⟨RX0, TX0, 3, rfl, by decide, in_X0, rfl, gT_in 407 (by decide +kernel) rfl⟩
theorem cw_X4_236 : CWv RX4 236 RX3 yX3_firstOtherwise cX3_firstOtherwise 4 (some .int) 2 := ⟨by decide +kernel, gT_in 734 (by decide +kernel) rfl, gT_in 735 (by decide +kernel) rfl, gT_in 736 (by decide +kernel) rfl, gT_in 79 (by decide +kernel) rfl, gT_in 737 (by decide +kernel) rfl⟩
theorem cw_X4_240 : CWv RX4 240 RX4 yX4_allSo cX4_allSo 8 (some .int) 5 := ⟨by decide +kernel, gT_in 747 (by decide +kernel) rfl, gT_in 749 (by decide +kernel) rfl, gT_in 25 (by decide +kernel) rfl, gT_in 72 (by decide +kernel) rfl, gT_in 750 (by decide +kernel) rfl⟩
theorem cw_X4_244 : CWv RX4 244 RX4 yX4_daysSo cX4_daysSo 6 (some .int) 3 := ⟨by decide +kernel, gT_in 755 (by decide +kernel) rfl, gT_in 757 (by decide +kernel) rfl, gT_in 26 (by decide +kernel) rfl, gT_in 72 (by decide +kernel) rfl, gT_in 758 (by decide +kernel) rfl⟩
theorem cw_X4_248 : CWv RX4 248 RX4 yX4_lettersSo cX4_lettersSo 4 (some .int) 1 := ⟨by decide +kernel, gT_in 759 (by decide +kernel) rfl, gT_in 761 (by decide +kernel) rfl, gT_in 27 (by decide +kernel) rfl, gT_in 72 (by decide +kernel) rfl, gT_in 762 (by decide +kernel) rfl⟩
theorem cw_X4_252 : CWv RX4 252 RX0 yX0_become cX0_become 4 none 2 := ⟨by decide +kernel, gT_in 767 (by decide +kernel) rfl, gT_in 768 (by decide +kernel) rfl, gT_in 769 (by decide +kernel) rfl, gT_in 80 (by decide +kernel) rfl, gT_in 770 (by decide +kernel) rfl⟩
theorem cw_X4_255 : CWv RX4 255 RX0 yX0_put cX0_put 3 none 2 := ⟨by decide +kernel, gT_in 773 (by decide +kernel) rfl, gT_in 774 (by decide +kernel) rfl, gT_in 775 (by decide +kernel) rfl, gT_in 80 (by decide +kernel) rfl, gT_in 776 (by decide +kernel) rfl⟩
theorem cw_X4_258 : CWv RX4 258 RX4 yX4_homesDrawn cX4_homesDrawn 7 (some .int) 2 := ⟨by decide +kernel, gT_in 781 (by decide +kernel) rfl, gT_in 783 (by decide +kernel) rfl, gT_in 28 (by decide +kernel) rfl, gT_in 72 (by decide +kernel) rfl, gT_in 784 (by decide +kernel) rfl⟩
theorem fl_X4_261 : FLd RX4 261 4 5 := ⟨RX4, TX4, 8, rfl, by decide, in_X4, rfl, gT_in 422 (by decide +kernel) rfl⟩
theorem cw_X4_265 : CWv RX4 265 RX3 yX3_changeKind cX3_changeKind 3 none 2 := ⟨by decide +kernel, gT_in 751 (by decide +kernel) rfl, gT_in 752 (by decide +kernel) rfl, gT_in 753 (by decide +kernel) rfl, gT_in 79 (by decide +kernel) rfl, gT_in 754 (by decide +kernel) rfl⟩
theorem cc_X4_268 : Cond.constant RX4 268 (1103515245) ∈ gT := gT_in 785 (by decide +kernel) rfl
theorem cw_X4_269 : CWv RX4 269 RX0 yX0_has cX0_has 2 (some .boolean) 1 := ⟨by decide +kernel, gT_in 810 (by decide +kernel) rfl, gT_in 744 (by decide +kernel) rfl, gT_in 745 (by decide +kernel) rfl, gT_in 80 (by decide +kernel) rfl, gT_in 746 (by decide +kernel) rfl⟩
theorem fl_X4_272 : FLd RX4 272 0 0 := ⟨RX0, TX0, 3, rfl, by decide, in_X0, rfl, gT_in 404 (by decide +kernel) rfl⟩
theorem cw_X4_275 : CWv RX4 275 RX0 yX0_hasRun cX0_hasRun 3 (some .boolean) 2 := ⟨by decide +kernel, gT_in 815 (by decide +kernel) rfl, gT_in 816 (by decide +kernel) rfl, gT_in 817 (by decide +kernel) rfl, gT_in 80 (by decide +kernel) rfl, gT_in 818 (by decide +kernel) rfl⟩
theorem fl_X4_278 : FLd RX4 278 0 2 := ⟨RX0, TX0, 3, rfl, by decide, in_X0, rfl, gT_in 409 (by decide +kernel) rfl⟩
theorem cw_X4_287 : CWv RX4 287 RX0 yX0_item cX0_item 2 (some .int) 1 := ⟨by decide +kernel, gT_in 826 (by decide +kernel) rfl, gT_in 740 (by decide +kernel) rfl, gT_in 741 (by decide +kernel) rfl, gT_in 80 (by decide +kernel) rfl, gT_in 742 (by decide +kernel) rfl⟩
theorem cw_X4_290 : CWv RX4 290 RX4 yX4_person cX4_person 4 (some .int) 3 := ⟨by decide +kernel, gT_in 827 (by decide +kernel) rfl, gT_in 516 (by decide +kernel) rfl, gT_in 517 (by decide +kernel) rfl, gT_in 72 (by decide +kernel) rfl, gT_in 518 (by decide +kernel) rfl⟩
theorem cw_X4_293 : CWs RX4 293 yX3_isUnder cX3_isUnder 4 (some .boolean) 2 := ⟨by decide +kernel, gT_in 832 (by decide +kernel) rfl, gT_in 833 (by decide +kernel) rfl, gT_in 79 (by decide +kernel) rfl, gT_in 834 (by decide +kernel) rfl⟩
theorem fl_X5_13 : FLd RX5 13 5 1 := ⟨RX5, TX5, 44, rfl, by decide, in_X5, rfl, gT_in 847 (by decide +kernel) rfl⟩
theorem fl_X5_17 : FLd RX5 17 5 2 := ⟨RX5, TX5, 44, rfl, by decide, in_X5, rfl, gT_in 848 (by decide +kernel) rfl⟩
theorem fl_X5_20 : FLd RX5 20 5 5 := ⟨RX5, TX5, 44, rfl, by decide, in_X5, rfl, gT_in 851 (by decide +kernel) rfl⟩
theorem fl_X5_23 : FLd RX5 23 5 8 := ⟨RX5, TX5, 44, rfl, by decide, in_X5, rfl, gT_in 854 (by decide +kernel) rfl⟩
theorem fl_X5_26 : FLd RX5 26 5 9 := ⟨RX5, TX5, 44, rfl, by decide, in_X5, rfl, gT_in 855 (by decide +kernel) rfl⟩
theorem fl_X5_29 : FLd RX5 29 5 11 := ⟨RX5, TX5, 44, rfl, by decide, in_X5, rfl, gT_in 857 (by decide +kernel) rfl⟩
theorem fl_X5_32 : FLd RX5 32 5 29 := ⟨RX5, TX5, 44, rfl, by decide, in_X5, rfl, gT_in 875 (by decide +kernel) rfl⟩
theorem fl_X5_35 : FLd RX5 35 5 30 := ⟨RX5, TX5, 44, rfl, by decide, in_X5, rfl, gT_in 876 (by decide +kernel) rfl⟩
theorem fl_X5_38 : FLd RX5 38 5 31 := ⟨RX5, TX5, 44, rfl, by decide, in_X5, rfl, gT_in 877 (by decide +kernel) rfl⟩
theorem fl_X5_41 : FLd RX5 41 5 32 := ⟨RX5, TX5, 44, rfl, by decide, in_X5, rfl, gT_in 878 (by decide +kernel) rfl⟩
theorem fl_X5_44 : FLd RX5 44 5 33 := ⟨RX5, TX5, 44, rfl, by decide, in_X5, rfl, gT_in 879 (by decide +kernel) rfl⟩
theorem fl_X5_47 : FLd RX5 47 5 34 := ⟨RX5, TX5, 44, rfl, by decide, in_X5, rfl, gT_in 880 (by decide +kernel) rfl⟩
theorem fl_X5_50 : FLd RX5 50 5 35 := ⟨RX5, TX5, 44, rfl, by decide, in_X5, rfl, gT_in 881 (by decide +kernel) rfl⟩
theorem fl_X5_53 : FLd RX5 53 5 40 := ⟨RX5, TX5, 44, rfl, by decide, in_X5, rfl, gT_in 886 (by decide +kernel) rfl⟩
theorem fl_X5_57 : FLd RX5 57 5 41 := ⟨RX5, TX5, 44, rfl, by decide, in_X5, rfl, gT_in 887 (by decide +kernel) rfl⟩
theorem fl_X5_60 : FLd RX5 60 5 42 := ⟨RX5, TX5, 44, rfl, by decide, in_X5, rfl, gT_in 888 (by decide +kernel) rfl⟩
theorem fl_X5_63 : FLd RX5 63 5 43 := ⟨RX5, TX5, 44, rfl, by decide, in_X5, rfl, gT_in 889 (by decide +kernel) rfl⟩
theorem cw_X5_66 : CWv RX5 66 RX5 yX5_spell cX5_spell 10 none 9 := ⟨by decide +kernel, gT_in 843 (by decide +kernel) rfl, gT_in 845 (by decide +kernel) rfl, gT_in 29 (by decide +kernel) rfl, gT_in 81 (by decide +kernel) rfl, gT_in 846 (by decide +kernel) rfl⟩
theorem fl_X5_70 : FLd RX5 70 5 3 := ⟨RX5, TX5, 44, rfl, by decide, in_X5, rfl, gT_in 849 (by decide +kernel) rfl⟩
theorem fl_X5_73 : FLd RX5 73 5 10 := ⟨RX5, TX5, 44, rfl, by decide, in_X5, rfl, gT_in 856 (by decide +kernel) rfl⟩
theorem cw_X5_76 : CWs RX5 76 yX5_in cX5_in 6 (some .boolean) 3 := ⟨by decide +kernel, gT_in 985 (by decide +kernel) rfl, gT_in 986 (by decide +kernel) rfl, gT_in 81 (by decide +kernel) rfl, gT_in 987 (by decide +kernel) rfl⟩
theorem fl_X5_80 : FLd RX5 80 5 12 := ⟨RX5, TX5, 44, rfl, by decide, in_X5, rfl, gT_in 858 (by decide +kernel) rfl⟩
theorem cw_X5_83 : CWv RX5 83 RX5 yX5_isOne cX5_isOne 2 (some .boolean) 1 := ⟨by decide +kernel, gT_in 996 (by decide +kernel) rfl, gT_in 998 (by decide +kernel) rfl, gT_in 32 (by decide +kernel) rfl, gT_in 81 (by decide +kernel) rfl, gT_in 999 (by decide +kernel) rfl⟩
theorem cw_X5_87 : CWv RX5 87 RX5 yX5_isLetter cX5_isLetter 2 (some .boolean) 1 := ⟨by decide +kernel, gT_in 992 (by decide +kernel) rfl, gT_in 994 (by decide +kernel) rfl, gT_in 31 (by decide +kernel) rfl, gT_in 81 (by decide +kernel) rfl, gT_in 995 (by decide +kernel) rfl⟩
theorem cc_X5_90 : Cond.constantLong RX5 90 (3) ∈ gT := gT_in 984 (by decide +kernel) rfl
theorem cw_X5_92 : CWv RX5 92 RX5 yX5_isOf cX5_isOf 3 (some .boolean) 2 := ⟨by decide +kernel, gT_in 988 (by decide +kernel) rfl, gT_in 990 (by decide +kernel) rfl, gT_in 30 (by decide +kernel) rfl, gT_in 81 (by decide +kernel) rfl, gT_in 991 (by decide +kernel) rfl⟩
theorem cw_X5_96 : CWs RX5 96 yX5_mostOf cX5_mostOf 1 (some .int) 1 := ⟨by decide +kernel, gT_in 1000 (by decide +kernel) rfl, gT_in 1001 (by decide +kernel) rfl, gT_in 81 (by decide +kernel) rfl, gT_in 1002 (by decide +kernel) rfl⟩
theorem cw_X5_100 : CWv RX5 100 RX5 yX5_told cX5_told 3 (some .int) 2 := ⟨by decide +kernel, gT_in 1003 (by decide +kernel) rfl, gT_in 1004 (by decide +kernel) rfl, gT_in 1005 (by decide +kernel) rfl, gT_in 81 (by decide +kernel) rfl, gT_in 1006 (by decide +kernel) rfl⟩
theorem cw_X5_104 : CWv RX5 104 RX5 yX5_lays cX5_lays 4 none 3 := ⟨by decide +kernel, gT_in 1012 (by decide +kernel) rfl, gT_in 1014 (by decide +kernel) rfl, gT_in 34 (by decide +kernel) rfl, gT_in 81 (by decide +kernel) rfl, gT_in 1015 (by decide +kernel) rfl⟩
theorem fl_X5_108 : FLd RX5 108 5 7 := ⟨RX5, TX5, 44, rfl, by decide, in_X5, rfl, gT_in 853 (by decide +kernel) rfl⟩
theorem fl_X5_111 : FLd RX5 111 5 4 := ⟨RX5, TX5, 44, rfl, by decide, in_X5, rfl, gT_in 850 (by decide +kernel) rfl⟩
theorem cc_X5_114 : Cond.constantLong RX5 114 (5) ∈ gT := gT_in 1020 (by decide +kernel) rfl
theorem cc_X5_116 : Cond.constantLong RX5 116 (9) ∈ gT := gT_in 1021 (by decide +kernel) rfl
theorem cc_X5_118 : Cond.constantLong RX5 118 (7) ∈ gT := gT_in 1022 (by decide +kernel) rfl
theorem cw_X5_120 : CWv RX5 120 RX5 yX5_whoIn cX5_whoIn 4 (some .int) 1 := ⟨by decide +kernel, gT_in 1023 (by decide +kernel) rfl, gT_in 1025 (by decide +kernel) rfl, gT_in 35 (by decide +kernel) rfl, gT_in 81 (by decide +kernel) rfl, gT_in 1026 (by decide +kernel) rfl⟩
theorem cw_X5_123 : CWv RX5 123 RX5 yX5_areTwo cX5_areTwo 3 (some .boolean) 2 := ⟨by decide +kernel, gT_in 1031 (by decide +kernel) rfl, gT_in 1033 (by decide +kernel) rfl, gT_in 36 (by decide +kernel) rfl, gT_in 81 (by decide +kernel) rfl, gT_in 1034 (by decide +kernel) rfl⟩
theorem cc_X5_126 : Cond.constantLong RX5 126 (10) ∈ gT := gT_in 1007 (by decide +kernel) rfl
theorem cw_X5_128 : CWv RX5 128 RX5 yX5_known cX5_known 4 (some .int) 1 := ⟨by decide +kernel, gT_in 1008 (by decide +kernel) rfl, gT_in 1010 (by decide +kernel) rfl, gT_in 33 (by decide +kernel) rfl, gT_in 81 (by decide +kernel) rfl, gT_in 1011 (by decide +kernel) rfl⟩
theorem cc_X5_131 : Cond.constantLong RX5 131 (255) ∈ gT := gT_in 1040 (by decide +kernel) rfl
theorem fl_X5_133 : FLd RX5 133 5 6 := ⟨RX5, TX5, 44, rfl, by decide, in_X5, rfl, gT_in 852 (by decide +kernel) rfl⟩
theorem fl_X5_136 : FLd RX5 136 5 21 := ⟨RX5, TX5, 44, rfl, by decide, in_X5, rfl, gT_in 867 (by decide +kernel) rfl⟩
theorem fl_X5_139 : FLd RX5 139 5 20 := ⟨RX5, TX5, 44, rfl, by decide, in_X5, rfl, gT_in 866 (by decide +kernel) rfl⟩
theorem fl_X5_142 : FLd RX5 142 5 22 := ⟨RX5, TX5, 44, rfl, by decide, in_X5, rfl, gT_in 868 (by decide +kernel) rfl⟩
theorem cw_X5_145 : CWv RX5 145 RX5 yX5_byteAt cX5_byteAt 2 (some .int) 1 := ⟨by decide +kernel, gT_in 1053 (by decide +kernel) rfl, gT_in 1055 (by decide +kernel) rfl, gT_in 39 (by decide +kernel) rfl, gT_in 81 (by decide +kernel) rfl, gT_in 1056 (by decide +kernel) rfl⟩
theorem fl_X5_148 : FLd RX5 148 5 24 := ⟨RX5, TX5, 44, rfl, by decide, in_X5, rfl, gT_in 870 (by decide +kernel) rfl⟩
theorem fl_X5_151 : FLd RX5 151 5 23 := ⟨RX5, TX5, 44, rfl, by decide, in_X5, rfl, gT_in 869 (by decide +kernel) rfl⟩
theorem cc_X5_154 : Cond.constantLong RX5 154 (97) ∈ gT := gT_in 1057 (by decide +kernel) rfl
theorem cc_X5_156 : Cond.constantLong RX5 156 (122) ∈ gT := gT_in 1058 (by decide +kernel) rfl
theorem cc_X5_158 : Cond.constantLong RX5 158 (48) ∈ gT := gT_in 1059 (by decide +kernel) rfl
theorem cc_X5_160 : Cond.constantLong RX5 160 (57) ∈ gT := gT_in 1060 (by decide +kernel) rfl
theorem fl_X5_162 : FLd RX5 162 5 25 := ⟨RX5, TX5, 44, rfl, by decide, in_X5, rfl, gT_in 871 (by decide +kernel) rfl⟩
theorem fl_X5_166 : FLd RX5 166 5 27 := ⟨RX5, TX5, 44, rfl, by decide, in_X5, rfl, gT_in 873 (by decide +kernel) rfl⟩
theorem fl_X5_170 : FLd RX5 170 5 28 := ⟨RX5, TX5, 44, rfl, by decide, in_X5, rfl, gT_in 874 (by decide +kernel) rfl⟩
theorem cw_X5_173 : CWv RX5 173 RX5 yX5_isLetter_ cX5_isLetter_ 3 (some .boolean) 2 := ⟨by decide +kernel, gT_in 1065 (by decide +kernel) rfl, gT_in 1067 (by decide +kernel) rfl, gT_in 41 (by decide +kernel) rfl, gT_in 81 (by decide +kernel) rfl, gT_in 1068 (by decide +kernel) rfl⟩
theorem fl_X5_175 : FLd RX5 175 5 26 := ⟨RX5, TX5, 44, rfl, by decide, in_X5, rfl, gT_in 872 (by decide +kernel) rfl⟩
theorem cw_X5_178 : CWv RX5 178 RX5 yX5_fail cX5_fail 1 none 0 := ⟨by decide +kernel, gT_in 1073 (by decide +kernel) rfl, gT_in 1075 (by decide +kernel) rfl, gT_in 43 (by decide +kernel) rfl, gT_in 81 (by decide +kernel) rfl, gT_in 1076 (by decide +kernel) rfl⟩
theorem cw_X5_181 : CWv RX5 181 RX5 yX5_next cX5_next 3 none 0 := ⟨by decide +kernel, gT_in 1049 (by decide +kernel) rfl, gT_in 1051 (by decide +kernel) rfl, gT_in 38 (by decide +kernel) rfl, gT_in 81 (by decide +kernel) rfl, gT_in 1052 (by decide +kernel) rfl⟩
theorem cw_X5_184 : CWv RX5 184 RX5 yX5_isWord cX5_isWord 9 (some .boolean) 8 := ⟨by decide +kernel, gT_in 1061 (by decide +kernel) rfl, gT_in 1063 (by decide +kernel) rfl, gT_in 40 (by decide +kernel) rfl, gT_in 81 (by decide +kernel) rfl, gT_in 1064 (by decide +kernel) rfl⟩
theorem fl_X5_188 : FLd RX5 188 5 14 := ⟨RX5, TX5, 44, rfl, by decide, in_X5, rfl, gT_in 860 (by decide +kernel) rfl⟩
theorem fl_X5_191 : FLd RX5 191 5 15 := ⟨RX5, TX5, 44, rfl, by decide, in_X5, rfl, gT_in 861 (by decide +kernel) rfl⟩
theorem fl_X5_194 : FLd RX5 194 5 16 := ⟨RX5, TX5, 44, rfl, by decide, in_X5, rfl, gT_in 862 (by decide +kernel) rfl⟩
theorem fl_X5_197 : FLd RX5 197 5 17 := ⟨RX5, TX5, 44, rfl, by decide, in_X5, rfl, gT_in 863 (by decide +kernel) rfl⟩
theorem fl_X5_200 : FLd RX5 200 5 18 := ⟨RX5, TX5, 44, rfl, by decide, in_X5, rfl, gT_in 864 (by decide +kernel) rfl⟩
theorem fl_X5_203 : FLd RX5 203 5 19 := ⟨RX5, TX5, 44, rfl, by decide, in_X5, rfl, gT_in 865 (by decide +kernel) rfl⟩
theorem cw_X5_206 : CWv RX5 206 RX5 yX5_isSign cX5_isSign 2 (some .boolean) 1 := ⟨by decide +kernel, gT_in 1105 (by decide +kernel) rfl, gT_in 1107 (by decide +kernel) rfl, gT_in 51 (by decide +kernel) rfl, gT_in 81 (by decide +kernel) rfl, gT_in 1108 (by decide +kernel) rfl⟩
theorem cw_X5_209 : CWv RX5 209 RX5 yX5_opens cX5_opens 1 (some .boolean) 0 := ⟨by decide +kernel, gT_in 1089 (by decide +kernel) rfl, gT_in 1091 (by decide +kernel) rfl, gT_in 47 (by decide +kernel) rfl, gT_in 81 (by decide +kernel) rfl, gT_in 1092 (by decide +kernel) rfl⟩
theorem cw_X5_213 : CWv RX5 213 RX5 yX5_atom cX5_atom 2 (some .int) 0 := ⟨by decide +kernel, gT_in 1101 (by decide +kernel) rfl, gT_in 1103 (by decide +kernel) rfl, gT_in 50 (by decide +kernel) rfl, gT_in 81 (by decide +kernel) rfl, gT_in 1104 (by decide +kernel) rfl⟩
theorem cw_X5_217 : CWv RX5 217 RX5 yX5_either cX5_either 3 (some .int) 0 := ⟨by decide +kernel, gT_in 1077 (by decide +kernel) rfl, gT_in 1079 (by decide +kernel) rfl, gT_in 44 (by decide +kernel) rfl, gT_in 81 (by decide +kernel) rfl, gT_in 1080 (by decide +kernel) rfl⟩
theorem cw_X5_220 : CWv RX5 220 RX5 yX5_name cX5_name 1 (some .int) 0 := ⟨by decide +kernel, gT_in 1109 (by decide +kernel) rfl, gT_in 1111 (by decide +kernel) rfl, gT_in 52 (by decide +kernel) rfl, gT_in 81 (by decide +kernel) rfl, gT_in 1112 (by decide +kernel) rfl⟩
theorem cw_X5_223 : CWv RX5 223 RX5 yX5_term cX5_term 2 (some .int) 0 := ⟨by decide +kernel, gT_in 1097 (by decide +kernel) rfl, gT_in 1099 (by decide +kernel) rfl, gT_in 49 (by decide +kernel) rfl, gT_in 81 (by decide +kernel) rfl, gT_in 1100 (by decide +kernel) rfl⟩
theorem cc_X5_226 : Cond.constantLong RX5 226 (43) ∈ gT := gT_in 1113 (by decide +kernel) rfl
theorem cw_X5_228 : CWv RX5 228 RX5 yX5_not cX5_not 4 (some .int) 0 := ⟨by decide +kernel, gT_in 1085 (by decide +kernel) rfl, gT_in 1087 (by decide +kernel) rfl, gT_in 46 (by decide +kernel) rfl, gT_in 81 (by decide +kernel) rfl, gT_in 1088 (by decide +kernel) rfl⟩
theorem cw_X5_231 : CWv RX5 231 RX5 yX5_added cX5_added 4 (some .int) 0 := ⟨by decide +kernel, gT_in 1093 (by decide +kernel) rfl, gT_in 1095 (by decide +kernel) rfl, gT_in 48 (by decide +kernel) rfl, gT_in 81 (by decide +kernel) rfl, gT_in 1096 (by decide +kernel) rfl⟩
theorem cc_X5_234 : Cond.constantLong RX5 234 (60) ∈ gT := gT_in 1114 (by decide +kernel) rfl
theorem cw_X5_236 : CWv RX5 236 RX5 yX5_both cX5_both 3 (some .int) 0 := ⟨by decide +kernel, gT_in 1081 (by decide +kernel) rfl, gT_in 1083 (by decide +kernel) rfl, gT_in 45 (by decide +kernel) rfl, gT_in 81 (by decide +kernel) rfl, gT_in 1084 (by decide +kernel) rfl⟩
theorem cw_X5_239 : CWv RX5 239 RX5 yX5_part cX5_part 3 (some .int) 1 := ⟨by decide +kernel, gT_in 1069 (by decide +kernel) rfl, gT_in 1071 (by decide +kernel) rfl, gT_in 42 (by decide +kernel) rfl, gT_in 81 (by decide +kernel) rfl, gT_in 1072 (by decide +kernel) rfl⟩
theorem cw_X5_243 : CWv RX5 243 RX5 yX5_read cX5_read 6 (some .int) 2 := ⟨by decide +kernel, gT_in 1045 (by decide +kernel) rfl, gT_in 1047 (by decide +kernel) rfl, gT_in 37 (by decide +kernel) rfl, gT_in 81 (by decide +kernel) rfl, gT_in 1048 (by decide +kernel) rfl⟩
theorem cw_X5_246 : CWs RX5 246 yX5_bitsOf cX5_bitsOf 3 (some .int) 1 := ⟨by decide +kernel, gT_in 1131 (by decide +kernel) rfl, gT_in 1132 (by decide +kernel) rfl, gT_in 81 (by decide +kernel) rfl, gT_in 1133 (by decide +kernel) rfl⟩
theorem cw_X5_249 : CWs RX5 249 yX5_within cX5_within 3 (some .int) 3 := ⟨by decide +kernel, gT_in 1134 (by decide +kernel) rfl, gT_in 1135 (by decide +kernel) rfl, gT_in 81 (by decide +kernel) rfl, gT_in 1136 (by decide +kernel) rfl⟩
theorem fl_X5_253 : FLd RX5 253 5 13 := ⟨RX5, TX5, 44, rfl, by decide, in_X5, rfl, gT_in 859 (by decide +kernel) rfl⟩
theorem cw_X5_256 : CWv RX5 256 RX5 yX5_says cX5_says 4 (some .int) 3 := ⟨by decide +kernel, gT_in 1127 (by decide +kernel) rfl, gT_in 1129 (by decide +kernel) rfl, gT_in 54 (by decide +kernel) rfl, gT_in 81 (by decide +kernel) rfl, gT_in 1130 (by decide +kernel) rfl⟩
theorem cw_X5_259 : CWv RX5 259 RX5 yX5_softens cX5_softens 6 (some .int) 2 := ⟨by decide +kernel, gT_in 1123 (by decide +kernel) rfl, gT_in 1125 (by decide +kernel) rfl, gT_in 53 (by decide +kernel) rfl, gT_in 81 (by decide +kernel) rfl, gT_in 1126 (by decide +kernel) rfl⟩
theorem cw_X5_262 : CWv RX5 262 RX5 yX5_carries cX5_carries 6 (some .boolean) 2 := ⟨by decide +kernel, gT_in 1137 (by decide +kernel) rfl, gT_in 1139 (by decide +kernel) rfl, gT_in 55 (by decide +kernel) rfl, gT_in 81 (by decide +kernel) rfl, gT_in 1140 (by decide +kernel) rfl⟩
theorem cw_X5_265 : CWv RX5 265 RX5 yX5_writesOf cX5_writesOf 4 (some .int) 1 := ⟨by decide +kernel, gT_in 1145 (by decide +kernel) rfl, gT_in 1147 (by decide +kernel) rfl, gT_in 56 (by decide +kernel) rfl, gT_in 81 (by decide +kernel) rfl, gT_in 1148 (by decide +kernel) rfl⟩
theorem cw_X5_268 : CWv RX5 268 RX5 yX5_sends cX5_sends 4 none 2 := ⟨by decide +kernel, gT_in 1153 (by decide +kernel) rfl, gT_in 1155 (by decide +kernel) rfl, gT_in 57 (by decide +kernel) rfl, gT_in 81 (by decide +kernel) rfl, gT_in 1156 (by decide +kernel) rfl⟩
theorem cw_X5_272 : CWv RX5 272 RX5 yX5_homeSet cX5_homeSet 3 (some .int) 0 := ⟨by decide +kernel, gT_in 1161 (by decide +kernel) rfl, gT_in 1163 (by decide +kernel) rfl, gT_in 58 (by decide +kernel) rfl, gT_in 81 (by decide +kernel) rfl, gT_in 1164 (by decide +kernel) rfl⟩
theorem cw_X5_275 : CWv RX5 275 RX5 yX5_steps cX5_steps 5 none 1 := ⟨by decide +kernel, gT_in 1169 (by decide +kernel) rfl, gT_in 1171 (by decide +kernel) rfl, gT_in 60 (by decide +kernel) rfl, gT_in 81 (by decide +kernel) rfl, gT_in 1172 (by decide +kernel) rfl⟩
theorem cw_X5_279 : CWv RX5 279 RX5 yX5_passes cX5_passes 2 none 0 := ⟨by decide +kernel, gT_in 1165 (by decide +kernel) rfl, gT_in 1167 (by decide +kernel) rfl, gT_in 59 (by decide +kernel) rfl, gT_in 81 (by decide +kernel) rfl, gT_in 1168 (by decide +kernel) rfl⟩
theorem cw_X5_282 : CWv RX5 282 RX5 yX5_laysAside cX5_laysAside 2 none 0 := ⟨by decide +kernel, gT_in 1178 (by decide +kernel) rfl, gT_in 1180 (by decide +kernel) rfl, gT_in 61 (by decide +kernel) rfl, gT_in 81 (by decide +kernel) rfl, gT_in 1181 (by decide +kernel) rfl⟩
theorem cw_X5_285 : CWv RX5 285 RX5 yX5_go cX5_go 3 none 1 := ⟨by decide +kernel, gT_in 1182 (by decide +kernel) rfl, gT_in 1184 (by decide +kernel) rfl, gT_in 62 (by decide +kernel) rfl, gT_in 81 (by decide +kernel) rfl, gT_in 1185 (by decide +kernel) rfl⟩
theorem cw_X5_288 : CWv RX5 288 RX5 yX5_homeMany cX5_homeMany 1 (some .int) 0 := ⟨by decide +kernel, gT_in 1186 (by decide +kernel) rfl, gT_in 1188 (by decide +kernel) rfl, gT_in 63 (by decide +kernel) rfl, gT_in 81 (by decide +kernel) rfl, gT_in 1189 (by decide +kernel) rfl⟩
theorem cw_X5_291 : CWv RX5 291 RX5 yX5_laysBack cX5_laysBack 2 none 0 := ⟨by decide +kernel, gT_in 1190 (by decide +kernel) rfl, gT_in 1192 (by decide +kernel) rfl, gT_in 64 (by decide +kernel) rfl, gT_in 81 (by decide +kernel) rfl, gT_in 1193 (by decide +kernel) rfl⟩
theorem cc_X5_294 : Cond.constantLong RX5 294 (40) ∈ gT := gT_in 1177 (by decide +kernel) rfl
theorem cw_X5_296 : CWv RX5 296 RX5 yX5_homeBySlip cX5_homeBySlip 5 (some .int) 2 := ⟨by decide +kernel, gT_in 1202 (by decide +kernel) rfl, gT_in 1204 (by decide +kernel) rfl, gT_in 65 (by decide +kernel) rfl, gT_in 81 (by decide +kernel) rfl, gT_in 1205 (by decide +kernel) rfl⟩
theorem cc_X5_299 : Cond.constantLong RX5 299 (20) ∈ gT := gT_in 1210 (by decide +kernel) rfl
theorem cw_X5_301 : CWv RX5 301 RX5 yX5_wayOf cX5_wayOf 6 (some .int) 1 := ⟨by decide +kernel, gT_in 1211 (by decide +kernel) rfl, gT_in 1213 (by decide +kernel) rfl, gT_in 66 (by decide +kernel) rfl, gT_in 81 (by decide +kernel) rfl, gT_in 1214 (by decide +kernel) rfl⟩
theorem cw_X5_304 : CWv RX5 304 RX5 yX5_homeBehind cX5_homeBehind 3 (some .int) 1 := ⟨by decide +kernel, gT_in 1215 (by decide +kernel) rfl, gT_in 1217 (by decide +kernel) rfl, gT_in 67 (by decide +kernel) rfl, gT_in 81 (by decide +kernel) rfl, gT_in 1218 (by decide +kernel) rfl⟩
theorem cw_X5_307 : CWv RX5 307 RX5 yX5_run cX5_run 6 (some .int) 3 := ⟨by decide +kernel, gT_in 1223 (by decide +kernel) rfl, gT_in 1174 (by decide +kernel) rfl, gT_in 1175 (by decide +kernel) rfl, gT_in 81 (by decide +kernel) rfl, gT_in 1176 (by decide +kernel) rfl⟩
theorem cc_X5_310 : Cond.constantLong RX5 310 (-4611686018427387904) ∈ gT := gT_in 1232 (by decide +kernel) rfl
theorem cw_X5_312 : CWs RX5 312 yX5_lowest cX5_lowest 11 (some .long) 3 := ⟨by decide +kernel, gT_in 1233 (by decide +kernel) rfl, gT_in 1234 (by decide +kernel) rfl, gT_in 81 (by decide +kernel) rfl, gT_in 1235 (by decide +kernel) rfl⟩
theorem cw_X5_316 : CWv RX5 316 RX5 yX5_firstOther cX5_firstOther 5 (some .int) 2 := ⟨by decide +kernel, gT_in 1244 (by decide +kernel) rfl, gT_in 1246 (by decide +kernel) rfl, gT_in 68 (by decide +kernel) rfl, gT_in 81 (by decide +kernel) rfl, gT_in 1247 (by decide +kernel) rfl⟩
theorem cw_X5_319 : CWs RX5 319 yX5_isSheet cX5_isSheet 1 (some .boolean) 1 := ⟨by decide +kernel, gT_in 1240 (by decide +kernel) rfl, gT_in 1241 (by decide +kernel) rfl, gT_in 81 (by decide +kernel) rfl, gT_in 1242 (by decide +kernel) rfl⟩
theorem cc_X5_322 : Cond.constantLong RX5 322 (6) ∈ gT := gT_in 1243 (by decide +kernel) rfl
theorem cw_X5_324 : CWv RX5 324 RX5 yX5_likeSet cX5_likeSet 4 (some .int) 1 := ⟨by decide +kernel, gT_in 1248 (by decide +kernel) rfl, gT_in 1250 (by decide +kernel) rfl, gT_in 69 (by decide +kernel) rfl, gT_in 81 (by decide +kernel) rfl, gT_in 1251 (by decide +kernel) rfl⟩
theorem cw_X5_327 : CWv RX5 327 RX5 yX5_sheet cX5_sheet 5 (some .int) 3 := ⟨by decide +kernel, gT_in 1256 (by decide +kernel) rfl, gT_in 1257 (by decide +kernel) rfl, gT_in 1258 (by decide +kernel) rfl, gT_in 81 (by decide +kernel) rfl, gT_in 1259 (by decide +kernel) rfl⟩
theorem cc_X5_330 : Cond.constant RX5 330 (1103515245) ∈ gT := gT_in 1270 (by decide +kernel) rfl
theorem cw_X5_331 : CWv RX5 331 RX5 yX5_homeDrawn cX5_homeDrawn 7 (some .int) 2 := ⟨by decide +kernel, gT_in 1266 (by decide +kernel) rfl, gT_in 1268 (by decide +kernel) rfl, gT_in 70 (by decide +kernel) rfl, gT_in 81 (by decide +kernel) rfl, gT_in 1269 (by decide +kernel) rfl⟩
theorem cc_X5_334 : Cond.constantLong RX5 334 (8) ∈ gT := gT_in 1275 (by decide +kernel) rfl
theorem fl_X5_336 : FLd RX5 336 5 36 := ⟨RX5, TX5, 44, rfl, by decide, in_X5, rfl, gT_in 882 (by decide +kernel) rfl⟩
theorem fl_X5_339 : FLd RX5 339 5 37 := ⟨RX5, TX5, 44, rfl, by decide, in_X5, rfl, gT_in 883 (by decide +kernel) rfl⟩
theorem fl_X5_342 : FLd RX5 342 5 38 := ⟨RX5, TX5, 44, rfl, by decide, in_X5, rfl, gT_in 884 (by decide +kernel) rfl⟩
theorem fl_X5_345 : FLd RX5 345 5 39 := ⟨RX5, TX5, 44, rfl, by decide, in_X5, rfl, gT_in 885 (by decide +kernel) rfl⟩
theorem cc_X5_348 : Cond.constantLong RX5 348 (-1) ∈ gT := gT_in 1260 (by decide +kernel) rfl
theorem cc_X5_350 : Cond.constantLong RX5 350 (2) ∈ gT := gT_in 1261 (by decide +kernel) rfl
theorem cw_X5_352 : CWv RX5 352 RX5 yX5_person cX5_person 4 (some .int) 3 := ⟨by decide +kernel, gT_in 1301 (by decide +kernel) rfl, gT_in 1017 (by decide +kernel) rfl, gT_in 1018 (by decide +kernel) rfl, gT_in 81 (by decide +kernel) rfl, gT_in 1019 (by decide +kernel) rfl⟩
theorem cw_X5_355 : CWs RX5 355 yX5_over cX5_over 1 (some .int) 1 := ⟨by decide +kernel, gT_in 1306 (by decide +kernel) rfl, gT_in 1307 (by decide +kernel) rfl, gT_in 81 (by decide +kernel) rfl, gT_in 1308 (by decide +kernel) rfl⟩
theorem cc_J6_265 : Cond.constant RJ6 265 (1431655765) ∈ gT := gT_in 559 (by decide +kernel) rfl
theorem cc_J6_266 : Cond.constant RJ6 266 (858993459) ∈ gT := gT_in 560 (by decide +kernel) rfl
theorem cc_J6_267 : Cond.constant RJ6 267 (252645135) ∈ gT := gT_in 561 (by decide +kernel) rfl
end
