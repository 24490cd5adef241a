section
/-- a private method of a class that the tables say can be made, by its rows of tables_1 -/
def lw_okq (q : MethodName × Nat) : Prop := (q.1.cls ≠ "java/lang/invoke/MethodHandle" ∧ q.1.cls ≠ "java/lang/invoke/VarHandle") ∧ Cond.instantiable q.1.cls q.2 ∈ tables_1 ∧ Cond.privateMethod q.1 ∈ tables_1 ∧ Cond.instanceMethod q.1 ∈ tables_1
theorem lw_p0 : lw_okq (⟨"LittlePot$Town", "flows", "(I)V"⟩, 14) := ⟨⟨by decide +kernel, by decide +kernel⟩, List.mem_of_getElem? (i := 44) (by decide +kernel), List.mem_of_getElem? (i := 418) (by decide +kernel), List.mem_of_getElem? (i := 419) (by decide +kernel)⟩
theorem lw_p1 : lw_okq (⟨"LittlePot$Town", "feasts", "(I)V"⟩, 14) := ⟨⟨by decide +kernel, by decide +kernel⟩, List.mem_of_getElem? (i := 44) (by decide +kernel), List.mem_of_getElem? (i := 429) (by decide +kernel), List.mem_of_getElem? (i := 430) (by decide +kernel)⟩
theorem lw_p2 : lw_okq (⟨"LittlePot$Town", "fullestBeside", "(II)I"⟩, 14) := ⟨⟨by decide +kernel, by decide +kernel⟩, List.mem_of_getElem? (i := 44) (by decide +kernel), List.mem_of_getElem? (i := 435) (by decide +kernel), List.mem_of_getElem? (i := 436) (by decide +kernel)⟩
theorem lw_p3 : lw_okq (⟨"LittlePot$Town", "miceEat", "()V"⟩, 14) := ⟨⟨by decide +kernel, by decide +kernel⟩, List.mem_of_getElem? (i := 44) (by decide +kernel), List.mem_of_getElem? (i := 439) (by decide +kernel), List.mem_of_getElem? (i := 440) (by decide +kernel)⟩
theorem lw_p4 : lw_okq (⟨"LittlePot$Reader", "goesOn", "()V"⟩, 8) := ⟨⟨by decide +kernel, by decide +kernel⟩, List.mem_of_getElem? (i := 106) (by decide +kernel), List.mem_of_getElem? (i := 551) (by decide +kernel), List.mem_of_getElem? (i := 552) (by decide +kernel)⟩
theorem lw_p5 : lw_okq (⟨"LittlePot$Reader", "isLetter", "(I)Z"⟩, 8) := ⟨⟨by decide +kernel, by decide +kernel⟩, List.mem_of_getElem? (i := 106) (by decide +kernel), List.mem_of_getElem? (i := 555) (by decide +kernel), List.mem_of_getElem? (i := 556) (by decide +kernel)⟩
theorem lw_p6 : lw_okq (⟨"LittlePot$Reader", "isDigit", "(I)Z"⟩, 8) := ⟨⟨by decide +kernel, by decide +kernel⟩, List.mem_of_getElem? (i := 106) (by decide +kernel), List.mem_of_getElem? (i := 560) (by decide +kernel), List.mem_of_getElem? (i := 561) (by decide +kernel)⟩
theorem lw_p7 : lw_okq (⟨"LittlePot$Reader", "keyHere", "()I"⟩, 8) := ⟨⟨by decide +kernel, by decide +kernel⟩, List.mem_of_getElem? (i := 106) (by decide +kernel), List.mem_of_getElem? (i := 564) (by decide +kernel), List.mem_of_getElem? (i := 565) (by decide +kernel)⟩
theorem lw_p8 : lw_okq (⟨"LittlePot$Reader", "isWord", "(Ljava/lang/String;)Z"⟩, 8) := ⟨⟨by decide +kernel, by decide +kernel⟩, List.mem_of_getElem? (i := 106) (by decide +kernel), List.mem_of_getElem? (i := 569) (by decide +kernel), List.mem_of_getElem? (i := 570) (by decide +kernel)⟩
theorem lw_p9 : lw_okq (⟨"LittlePot$Reader", "readsOr", "()Z"⟩, 8) := ⟨⟨by decide +kernel, by decide +kernel⟩, List.mem_of_getElem? (i := 106) (by decide +kernel), List.mem_of_getElem? (i := 627) (by decide +kernel), List.mem_of_getElem? (i := 628) (by decide +kernel)⟩
theorem lw_p10 : lw_okq (⟨"LittlePot$Reader", "readsAnd", "()Z"⟩, 8) := ⟨⟨by decide +kernel, by decide +kernel⟩, List.mem_of_getElem? (i := 106) (by decide +kernel), List.mem_of_getElem? (i := 631) (by decide +kernel), List.mem_of_getElem? (i := 632) (by decide +kernel)⟩
theorem lw_p11 : lw_okq (⟨"LittlePot$Reader", "readsTest", "()Z"⟩, 8) := ⟨⟨by decide +kernel, by decide +kernel⟩, List.mem_of_getElem? (i := 106) (by decide +kernel), List.mem_of_getElem? (i := 635) (by decide +kernel), List.mem_of_getElem? (i := 636) (by decide +kernel)⟩
theorem lw_p12 : lw_okq (⟨"LittlePot$Reader", "readsSum", "()Z"⟩, 8) := ⟨⟨by decide +kernel, by decide +kernel⟩, List.mem_of_getElem? (i := 106) (by decide +kernel), List.mem_of_getElem? (i := 639) (by decide +kernel), List.mem_of_getElem? (i := 640) (by decide +kernel)⟩
theorem lw_p13 : lw_okq (⟨"LittlePot$Reader", "readsTerm", "()Z"⟩, 8) := ⟨⟨by decide +kernel, by decide +kernel⟩, List.mem_of_getElem? (i := 106) (by decide +kernel), List.mem_of_getElem? (i := 643) (by decide +kernel), List.mem_of_getElem? (i := 644) (by decide +kernel)⟩
theorem lw_p14 : lw_okq (⟨"LittlePot$Reader", "readsPiece", "()Z"⟩, 8) := ⟨⟨by decide +kernel, by decide +kernel⟩, List.mem_of_getElem? (i := 106) (by decide +kernel), List.mem_of_getElem? (i := 647) (by decide +kernel), List.mem_of_getElem? (i := 648) (by decide +kernel)⟩
theorem lw_p15 : lw_okq (⟨"LittlePot$Reader", "isSign", "(C)Z"⟩, 8) := ⟨⟨by decide +kernel, by decide +kernel⟩, List.mem_of_getElem? (i := 106) (by decide +kernel), List.mem_of_getElem? (i := 651) (by decide +kernel), List.mem_of_getElem? (i := 652) (by decide +kernel)⟩
def lw_privs_1 : List (MethodName × Nat) := [(⟨"LittlePot$Town", "flows", "(I)V"⟩, 14), (⟨"LittlePot$Town", "feasts", "(I)V"⟩, 14), (⟨"LittlePot$Town", "fullestBeside", "(II)I"⟩, 14), (⟨"LittlePot$Town", "miceEat", "()V"⟩, 14), (⟨"LittlePot$Reader", "goesOn", "()V"⟩, 8), (⟨"LittlePot$Reader", "isLetter", "(I)Z"⟩, 8), (⟨"LittlePot$Reader", "isDigit", "(I)Z"⟩, 8), (⟨"LittlePot$Reader", "keyHere", "()I"⟩, 8), (⟨"LittlePot$Reader", "isWord", "(Ljava/lang/String;)Z"⟩, 8), (⟨"LittlePot$Reader", "readsOr", "()Z"⟩, 8), (⟨"LittlePot$Reader", "readsAnd", "()Z"⟩, 8), (⟨"LittlePot$Reader", "readsTest", "()Z"⟩, 8), (⟨"LittlePot$Reader", "readsSum", "()Z"⟩, 8), (⟨"LittlePot$Reader", "readsTerm", "()Z"⟩, 8), (⟨"LittlePot$Reader", "readsPiece", "()Z"⟩, 8), (⟨"LittlePot$Reader", "isSign", "(C)Z"⟩, 8)]
theorem lw_r1 : ∀ q ∈ lw_privs_1, lw_okq q := List.forall_mem_cons.mpr ⟨lw_p0, List.forall_mem_cons.mpr ⟨lw_p1, List.forall_mem_cons.mpr ⟨lw_p2, List.forall_mem_cons.mpr ⟨lw_p3, List.forall_mem_cons.mpr ⟨lw_p4, List.forall_mem_cons.mpr ⟨lw_p5, List.forall_mem_cons.mpr ⟨lw_p6, List.forall_mem_cons.mpr ⟨lw_p7, List.forall_mem_cons.mpr ⟨lw_p8, List.forall_mem_cons.mpr ⟨lw_p9, List.forall_mem_cons.mpr ⟨lw_p10, List.forall_mem_cons.mpr ⟨lw_p11, List.forall_mem_cons.mpr ⟨lw_p12, List.forall_mem_cons.mpr ⟨lw_p13, List.forall_mem_cons.mpr ⟨lw_p14, List.forall_mem_cons.mpr ⟨lw_p15, fun _ h => absurd h List.not_mem_nil⟩⟩⟩⟩⟩⟩⟩⟩⟩⟩⟩⟩⟩⟩⟩⟩
theorem lw_p16 : lw_okq (⟨"LittlePot$Reader", "readsNot", "()Z"⟩, 8) := ⟨⟨by decide +kernel, by decide +kernel⟩, List.mem_of_getElem? (i := 106) (by decide +kernel), List.mem_of_getElem? (i := 655) (by decide +kernel), List.mem_of_getElem? (i := 656) (by decide +kernel)⟩
theorem lw_p17 : lw_okq (⟨"LittlePot$Reader", "readsParen", "()Z"⟩, 8) := ⟨⟨by decide +kernel, by decide +kernel⟩, List.mem_of_getElem? (i := 106) (by decide +kernel), List.mem_of_getElem? (i := 663) (by decide +kernel), List.mem_of_getElem? (i := 664) (by decide +kernel)⟩
theorem lw_p18 : lw_okq (⟨"LittlePot$Reader", "nameHere", "()I"⟩, 8) := ⟨⟨by decide +kernel, by decide +kernel⟩, List.mem_of_getElem? (i := 106) (by decide +kernel), List.mem_of_getElem? (i := 667) (by decide +kernel), List.mem_of_getElem? (i := 668) (by decide +kernel)⟩
theorem lw_p19 : lw_okq (⟨"LittlePot$Reader", "numberHere", "()I"⟩, 8) := ⟨⟨by decide +kernel, by decide +kernel⟩, List.mem_of_getElem? (i := 106) (by decide +kernel), List.mem_of_getElem? (i := 729) (by decide +kernel), List.mem_of_getElem? (i := 730) (by decide +kernel)⟩
theorem lw_p20 : lw_okq (⟨"LittlePot", "unlessHeld", "(II)I"⟩, 12) := ⟨⟨by decide +kernel, by decide +kernel⟩, List.mem_of_getElem? (i := 20) (by decide +kernel), List.mem_of_getElem? (i := 813) (by decide +kernel), List.mem_of_getElem? (i := 814) (by decide +kernel)⟩
theorem lw_p21 : lw_okq (⟨"LittlePot", "waited", "(III)Z"⟩, 12) := ⟨⟨by decide +kernel, by decide +kernel⟩, List.mem_of_getElem? (i := 20) (by decide +kernel), List.mem_of_getElem? (i := 834) (by decide +kernel), List.mem_of_getElem? (i := 835) (by decide +kernel)⟩
theorem lw_p22 : lw_okq (⟨"LittlePotModel", "comes", "(II)V"⟩, 33) := ⟨⟨by decide +kernel, by decide +kernel⟩, List.mem_of_getElem? (i := 850) (by decide +kernel), List.mem_of_getElem? (i := 970) (by decide +kernel), List.mem_of_getElem? (i := 971) (by decide +kernel)⟩
theorem lw_p23 : lw_okq (⟨"LittlePotModel", "sets", "(III)V"⟩, 33) := ⟨⟨by decide +kernel, by decide +kernel⟩, List.mem_of_getElem? (i := 850) (by decide +kernel), List.mem_of_getElem? (i := 974) (by decide +kernel), List.mem_of_getElem? (i := 975) (by decide +kernel)⟩
theorem lw_p24 : lw_okq (⟨"LittlePotModel", "isEater", "(I)Z"⟩, 33) := ⟨⟨by decide +kernel, by decide +kernel⟩, List.mem_of_getElem? (i := 850) (by decide +kernel), List.mem_of_getElem? (i := 982) (by decide +kernel), List.mem_of_getElem? (i := 983) (by decide +kernel)⟩
theorem lw_p25 : lw_okq (⟨"LittlePotModel", "of", "(II)I"⟩, 33) := ⟨⟨by decide +kernel, by decide +kernel⟩, List.mem_of_getElem? (i := 850) (by decide +kernel), List.mem_of_getElem? (i := 986) (by decide +kernel), List.mem_of_getElem? (i := 987) (by decide +kernel)⟩
theorem lw_p26 : lw_okq (⟨"LittlePotModel", "eats", "(I)I"⟩, 33) := ⟨⟨by decide +kernel, by decide +kernel⟩, List.mem_of_getElem? (i := 850) (by decide +kernel), List.mem_of_getElem? (i := 990) (by decide +kernel), List.mem_of_getElem? (i := 991) (by decide +kernel)⟩
theorem lw_p27 : lw_okq (⟨"LittlePotModel", "parts", "(I)I"⟩, 33) := ⟨⟨by decide +kernel, by decide +kernel⟩, List.mem_of_getElem? (i := 850) (by decide +kernel), List.mem_of_getElem? (i := 994) (by decide +kernel), List.mem_of_getElem? (i := 995) (by decide +kernel)⟩
theorem lw_p28 : lw_okq (⟨"LittlePotModel", "wades", "(I)I"⟩, 33) := ⟨⟨by decide +kernel, by decide +kernel⟩, List.mem_of_getElem? (i := 850) (by decide +kernel), List.mem_of_getElem? (i := 998) (by decide +kernel), List.mem_of_getElem? (i := 999) (by decide +kernel)⟩
theorem lw_p29 : lw_okq (⟨"LittlePotModel", "worth", "(I)I"⟩, 33) := ⟨⟨by decide +kernel, by decide +kernel⟩, List.mem_of_getElem? (i := 850) (by decide +kernel), List.mem_of_getElem? (i := 1002) (by decide +kernel), List.mem_of_getElem? (i := 1003) (by decide +kernel)⟩
theorem lw_p30 : lw_okq (⟨"LittlePotModel", "level", "(I)I"⟩, 33) := ⟨⟨by decide +kernel, by decide +kernel⟩, List.mem_of_getElem? (i := 850) (by decide +kernel), List.mem_of_getElem? (i := 1011) (by decide +kernel), List.mem_of_getElem? (i := 1012) (by decide +kernel)⟩
theorem lw_p31 : lw_okq (⟨"LittlePotModel", "becomes", "(II)I"⟩, 33) := ⟨⟨by decide +kernel, by decide +kernel⟩, List.mem_of_getElem? (i := 850) (by decide +kernel), List.mem_of_getElem? (i := 1022) (by decide +kernel), List.mem_of_getElem? (i := 1023) (by decide +kernel)⟩
def lw_privs_2 : List (MethodName × Nat) := [(⟨"LittlePot$Reader", "readsNot", "()Z"⟩, 8), (⟨"LittlePot$Reader", "readsParen", "()Z"⟩, 8), (⟨"LittlePot$Reader", "nameHere", "()I"⟩, 8), (⟨"LittlePot$Reader", "numberHere", "()I"⟩, 8), (⟨"LittlePot", "unlessHeld", "(II)I"⟩, 12), (⟨"LittlePot", "waited", "(III)Z"⟩, 12), (⟨"LittlePotModel", "comes", "(II)V"⟩, 33), (⟨"LittlePotModel", "sets", "(III)V"⟩, 33), (⟨"LittlePotModel", "isEater", "(I)Z"⟩, 33), (⟨"LittlePotModel", "of", "(II)I"⟩, 33), (⟨"LittlePotModel", "eats", "(I)I"⟩, 33), (⟨"LittlePotModel", "parts", "(I)I"⟩, 33), (⟨"LittlePotModel", "wades", "(I)I"⟩, 33), (⟨"LittlePotModel", "worth", "(I)I"⟩, 33), (⟨"LittlePotModel", "level", "(I)I"⟩, 33), (⟨"LittlePotModel", "becomes", "(II)I"⟩, 33)]
theorem lw_r2 : ∀ q ∈ lw_privs_2, lw_okq q := List.forall_mem_cons.mpr ⟨lw_p16, List.forall_mem_cons.mpr ⟨lw_p17, List.forall_mem_cons.mpr ⟨lw_p18, List.forall_mem_cons.mpr ⟨lw_p19, List.forall_mem_cons.mpr ⟨lw_p20, List.forall_mem_cons.mpr ⟨lw_p21, List.forall_mem_cons.mpr ⟨lw_p22, List.forall_mem_cons.mpr ⟨lw_p23, List.forall_mem_cons.mpr ⟨lw_p24, List.forall_mem_cons.mpr ⟨lw_p25, List.forall_mem_cons.mpr ⟨lw_p26, List.forall_mem_cons.mpr ⟨lw_p27, List.forall_mem_cons.mpr ⟨lw_p28, List.forall_mem_cons.mpr ⟨lw_p29, List.forall_mem_cons.mpr ⟨lw_p30, List.forall_mem_cons.mpr ⟨lw_p31, fun _ h => absurd h List.not_mem_nil⟩⟩⟩⟩⟩⟩⟩⟩⟩⟩⟩⟩⟩⟩⟩⟩
theorem lw_p32 : lw_okq (⟨"LittlePotModel", "drawn", "()I"⟩, 33) := ⟨⟨by decide +kernel, by decide +kernel⟩, List.mem_of_getElem? (i := 850) (by decide +kernel), List.mem_of_getElem? (i := 1067) (by decide +kernel), List.mem_of_getElem? (i := 1068) (by decide +kernel)⟩
theorem lw_p33 : lw_okq (⟨"LittlePotModel", "goesOn", "()I"⟩, 33) := ⟨⟨by decide +kernel, by decide +kernel⟩, List.mem_of_getElem? (i := 850) (by decide +kernel), List.mem_of_getElem? (i := 1081) (by decide +kernel), List.mem_of_getElem? (i := 1082) (by decide +kernel)⟩
theorem lw_p34 : lw_okq (⟨"LittlePotModel", "pours", "()I"⟩, 33) := ⟨⟨by decide +kernel, by decide +kernel⟩, List.mem_of_getElem? (i := 850) (by decide +kernel), List.mem_of_getElem? (i := 1085) (by decide +kernel), List.mem_of_getElem? (i := 1086) (by decide +kernel)⟩
theorem lw_p35 : lw_okq (⟨"LittlePotModel", "counts", "(I)I"⟩, 33) := ⟨⟨by decide +kernel, by decide +kernel⟩, List.mem_of_getElem? (i := 850) (by decide +kernel), List.mem_of_getElem? (i := 1089) (by decide +kernel), List.mem_of_getElem? (i := 1090) (by decide +kernel)⟩
theorem lw_p36 : lw_okq (⟨"LittlePotModel", "textAt", "(I)I"⟩, 33) := ⟨⟨by decide +kernel, by decide +kernel⟩, List.mem_of_getElem? (i := 850) (by decide +kernel), List.mem_of_getElem? (i := 1093) (by decide +kernel), List.mem_of_getElem? (i := 1094) (by decide +kernel)⟩
theorem lw_p37 : lw_okq (⟨"LittlePotModel", "worked", "(I)I"⟩, 33) := ⟨⟨by decide +kernel, by decide +kernel⟩, List.mem_of_getElem? (i := 850) (by decide +kernel), List.mem_of_getElem? (i := 1097) (by decide +kernel), List.mem_of_getElem? (i := 1098) (by decide +kernel)⟩
theorem lw_p38 : lw_okq (⟨"LittlePotModel", "flows", "(I)V"⟩, 33) := ⟨⟨by decide +kernel, by decide +kernel⟩, List.mem_of_getElem? (i := 850) (by decide +kernel), List.mem_of_getElem? (i := 1104) (by decide +kernel), List.mem_of_getElem? (i := 1105) (by decide +kernel)⟩
theorem lw_p39 : lw_okq (⟨"LittlePotModel", "dines", "(I)I"⟩, 33) := ⟨⟨by decide +kernel, by decide +kernel⟩, List.mem_of_getElem? (i := 850) (by decide +kernel), List.mem_of_getElem? (i := 1111) (by decide +kernel), List.mem_of_getElem? (i := 1112) (by decide +kernel)⟩
theorem lw_p40 : lw_okq (⟨"LittlePotModel", "allParts", "()I"⟩, 33) := ⟨⟨by decide +kernel, by decide +kernel⟩, List.mem_of_getElem? (i := 850) (by decide +kernel), List.mem_of_getElem? (i := 1119) (by decide +kernel), List.mem_of_getElem? (i := 1120) (by decide +kernel)⟩
theorem lw_p41 : lw_okq (⟨"LittlePotModel", "allAte", "()I"⟩, 33) := ⟨⟨by decide +kernel, by decide +kernel⟩, List.mem_of_getElem? (i := 850) (by decide +kernel), List.mem_of_getElem? (i := 1123) (by decide +kernel), List.mem_of_getElem? (i := 1124) (by decide +kernel)⟩
theorem lw_p42 : lw_okq (⟨"LittlePotModel", "manyWet", "()I"⟩, 33) := ⟨⟨by decide +kernel, by decide +kernel⟩, List.mem_of_getElem? (i := 850) (by decide +kernel), List.mem_of_getElem? (i := 1127) (by decide +kernel), List.mem_of_getElem? (i := 1128) (by decide +kernel)⟩
theorem lw_p43 : lw_okq (⟨"LittlePotModel", "laysBy", "()V"⟩, 33) := ⟨⟨by decide +kernel, by decide +kernel⟩, List.mem_of_getElem? (i := 850) (by decide +kernel), List.mem_of_getElem? (i := 1145) (by decide +kernel), List.mem_of_getElem? (i := 1146) (by decide +kernel)⟩
theorem lw_p44 : lw_okq (⟨"LittlePotModel", "goesOnMany", "(I)V"⟩, 33) := ⟨⟨by decide +kernel, by decide +kernel⟩, List.mem_of_getElem? (i := 850) (by decide +kernel), List.mem_of_getElem? (i := 1149) (by decide +kernel), List.mem_of_getElem? (i := 1150) (by decide +kernel)⟩
theorem lw_p45 : lw_okq (⟨"LittlePotModel", "laysBack", "()V"⟩, 33) := ⟨⟨by decide +kernel, by decide +kernel⟩, List.mem_of_getElem? (i := 850) (by decide +kernel), List.mem_of_getElem? (i := 1153) (by decide +kernel), List.mem_of_getElem? (i := 1154) (by decide +kernel)⟩
theorem lw_p46 : lw_okq (⟨"LittlePotModel", "parse", "()I"⟩, 33) := ⟨⟨by decide +kernel, by decide +kernel⟩, List.mem_of_getElem? (i := 850) (by decide +kernel), List.mem_of_getElem? (i := 1194) (by decide +kernel), List.mem_of_getElem? (i := 1195) (by decide +kernel)⟩
theorem lw_p47 : lw_okq (⟨"LittlePotModel", "nextToken", "()V"⟩, 33) := ⟨⟨by decide +kernel, by decide +kernel⟩, List.mem_of_getElem? (i := 850) (by decide +kernel), List.mem_of_getElem? (i := 1198) (by decide +kernel), List.mem_of_getElem? (i := 1199) (by decide +kernel)⟩
def lw_privs_3 : List (MethodName × Nat) := [(⟨"LittlePotModel", "drawn", "()I"⟩, 33), (⟨"LittlePotModel", "goesOn", "()I"⟩, 33), (⟨"LittlePotModel", "pours", "()I"⟩, 33), (⟨"LittlePotModel", "counts", "(I)I"⟩, 33), (⟨"LittlePotModel", "textAt", "(I)I"⟩, 33), (⟨"LittlePotModel", "worked", "(I)I"⟩, 33), (⟨"LittlePotModel", "flows", "(I)V"⟩, 33), (⟨"LittlePotModel", "dines", "(I)I"⟩, 33), (⟨"LittlePotModel", "allParts", "()I"⟩, 33), (⟨"LittlePotModel", "allAte", "()I"⟩, 33), (⟨"LittlePotModel", "manyWet", "()I"⟩, 33), (⟨"LittlePotModel", "laysBy", "()V"⟩, 33), (⟨"LittlePotModel", "goesOnMany", "(I)V"⟩, 33), (⟨"LittlePotModel", "laysBack", "()V"⟩, 33), (⟨"LittlePotModel", "parse", "()I"⟩, 33), (⟨"LittlePotModel", "nextToken", "()V"⟩, 33)]
theorem lw_r3 : ∀ q ∈ lw_privs_3, lw_okq q := List.forall_mem_cons.mpr ⟨lw_p32, List.forall_mem_cons.mpr ⟨lw_p33, List.forall_mem_cons.mpr ⟨lw_p34, List.forall_mem_cons.mpr ⟨lw_p35, List.forall_mem_cons.mpr ⟨lw_p36, List.forall_mem_cons.mpr ⟨lw_p37, List.forall_mem_cons.mpr ⟨lw_p38, List.forall_mem_cons.mpr ⟨lw_p39, List.forall_mem_cons.mpr ⟨lw_p40, List.forall_mem_cons.mpr ⟨lw_p41, List.forall_mem_cons.mpr ⟨lw_p42, List.forall_mem_cons.mpr ⟨lw_p43, List.forall_mem_cons.mpr ⟨lw_p44, List.forall_mem_cons.mpr ⟨lw_p45, List.forall_mem_cons.mpr ⟨lw_p46, List.forall_mem_cons.mpr ⟨lw_p47, fun _ h => absurd h List.not_mem_nil⟩⟩⟩⟩⟩⟩⟩⟩⟩⟩⟩⟩⟩⟩⟩⟩
theorem lw_p48 : lw_okq (⟨"LittlePotModel", "isLetter", "(I)Z"⟩, 33) := ⟨⟨by decide +kernel, by decide +kernel⟩, List.mem_of_getElem? (i := 850) (by decide +kernel), List.mem_of_getElem? (i := 1202) (by decide +kernel), List.mem_of_getElem? (i := 1203) (by decide +kernel)⟩
theorem lw_p49 : lw_okq (⟨"LittlePotModel", "isDigit", "(I)Z"⟩, 33) := ⟨⟨by decide +kernel, by decide +kernel⟩, List.mem_of_getElem? (i := 850) (by decide +kernel), List.mem_of_getElem? (i := 1208) (by decide +kernel), List.mem_of_getElem? (i := 1209) (by decide +kernel)⟩
theorem lw_p50 : lw_okq (⟨"LittlePotModel", "key", "()I"⟩, 33) := ⟨⟨by decide +kernel, by decide +kernel⟩, List.mem_of_getElem? (i := 850) (by decide +kernel), List.mem_of_getElem? (i := 1214) (by decide +kernel), List.mem_of_getElem? (i := 1215) (by decide +kernel)⟩
theorem lw_p51 : lw_okq (⟨"LittlePotModel", "isWordAt", "(IIII)Z"⟩, 33) := ⟨⟨by decide +kernel, by decide +kernel⟩, List.mem_of_getElem? (i := 850) (by decide +kernel), List.mem_of_getElem? (i := 1218) (by decide +kernel), List.mem_of_getElem? (i := 1219) (by decide +kernel)⟩
theorem lw_p52 : lw_okq (⟨"LittlePotModel", "either", "(I)Z"⟩, 33) := ⟨⟨by decide +kernel, by decide +kernel⟩, List.mem_of_getElem? (i := 850) (by decide +kernel), List.mem_of_getElem? (i := 1222) (by decide +kernel), List.mem_of_getElem? (i := 1223) (by decide +kernel)⟩
theorem lw_p53 : lw_okq (⟨"LittlePotModel", "both", "(I)Z"⟩, 33) := ⟨⟨by decide +kernel, by decide +kernel⟩, List.mem_of_getElem? (i := 850) (by decide +kernel), List.mem_of_getElem? (i := 1226) (by decide +kernel), List.mem_of_getElem? (i := 1227) (by decide +kernel)⟩
theorem lw_p54 : lw_okq (⟨"LittlePotModel", "test", "(I)Z"⟩, 33) := ⟨⟨by decide +kernel, by decide +kernel⟩, List.mem_of_getElem? (i := 850) (by decide +kernel), List.mem_of_getElem? (i := 1230) (by decide +kernel), List.mem_of_getElem? (i := 1231) (by decide +kernel)⟩
theorem lw_p55 : lw_okq (⟨"LittlePotModel", "sum", "(I)Z"⟩, 33) := ⟨⟨by decide +kernel, by decide +kernel⟩, List.mem_of_getElem? (i := 850) (by decide +kernel), List.mem_of_getElem? (i := 1234) (by decide +kernel), List.mem_of_getElem? (i := 1235) (by decide +kernel)⟩
theorem lw_p56 : lw_okq (⟨"LittlePotModel", "term", "(I)Z"⟩, 33) := ⟨⟨by decide +kernel, by decide +kernel⟩, List.mem_of_getElem? (i := 850) (by decide +kernel), List.mem_of_getElem? (i := 1238) (by decide +kernel), List.mem_of_getElem? (i := 1239) (by decide +kernel)⟩
theorem lw_p57 : lw_okq (⟨"LittlePotModel", "part0", "(I)Z"⟩, 33) := ⟨⟨by decide +kernel, by decide +kernel⟩, List.mem_of_getElem? (i := 850) (by decide +kernel), List.mem_of_getElem? (i := 1242) (by decide +kernel), List.mem_of_getElem? (i := 1243) (by decide +kernel)⟩
theorem lw_p58 : lw_okq (⟨"LittlePotModel", "step", "(II)V"⟩, 33) := ⟨⟨by decide +kernel, by decide +kernel⟩, List.mem_of_getElem? (i := 850) (by decide +kernel), List.mem_of_getElem? (i := 1246) (by decide +kernel), List.mem_of_getElem? (i := 1247) (by decide +kernel)⟩
theorem lw_p59 : lw_okq (⟨"LittlePotModel", "isSign", "(I)Z"⟩, 33) := ⟨⟨by decide +kernel, by decide +kernel⟩, List.mem_of_getElem? (i := 850) (by decide +kernel), List.mem_of_getElem? (i := 1253) (by decide +kernel), List.mem_of_getElem? (i := 1254) (by decide +kernel)⟩
theorem lw_p60 : lw_okq (⟨"LittlePotModel", "isText", "(I)Z"⟩, 33) := ⟨⟨by decide +kernel, by decide +kernel⟩, List.mem_of_getElem? (i := 850) (by decide +kernel), List.mem_of_getElem? (i := 1261) (by decide +kernel), List.mem_of_getElem? (i := 1262) (by decide +kernel)⟩
theorem lw_p61 : lw_okq (⟨"LittlePotModel", "setAside", "([I[I)V"⟩, 33) := ⟨⟨by decide +kernel, by decide +kernel⟩, List.mem_of_getElem? (i := 850) (by decide +kernel), List.mem_of_getElem? (i := 1334) (by decide +kernel), List.mem_of_getElem? (i := 1335) (by decide +kernel)⟩
def lw_privs_4 : List (MethodName × Nat) := [(⟨"LittlePotModel", "isLetter", "(I)Z"⟩, 33), (⟨"LittlePotModel", "isDigit", "(I)Z"⟩, 33), (⟨"LittlePotModel", "key", "()I"⟩, 33), (⟨"LittlePotModel", "isWordAt", "(IIII)Z"⟩, 33), (⟨"LittlePotModel", "either", "(I)Z"⟩, 33), (⟨"LittlePotModel", "both", "(I)Z"⟩, 33), (⟨"LittlePotModel", "test", "(I)Z"⟩, 33), (⟨"LittlePotModel", "sum", "(I)Z"⟩, 33), (⟨"LittlePotModel", "term", "(I)Z"⟩, 33), (⟨"LittlePotModel", "part0", "(I)Z"⟩, 33), (⟨"LittlePotModel", "step", "(II)V"⟩, 33), (⟨"LittlePotModel", "isSign", "(I)Z"⟩, 33), (⟨"LittlePotModel", "isText", "(I)Z"⟩, 33), (⟨"LittlePotModel", "setAside", "([I[I)V"⟩, 33)]
theorem lw_r4 : ∀ q ∈ lw_privs_4, lw_okq q := List.forall_mem_cons.mpr ⟨lw_p48, List.forall_mem_cons.mpr ⟨lw_p49, List.forall_mem_cons.mpr ⟨lw_p50, List.forall_mem_cons.mpr ⟨lw_p51, List.forall_mem_cons.mpr ⟨lw_p52, List.forall_mem_cons.mpr ⟨lw_p53, List.forall_mem_cons.mpr ⟨lw_p54, List.forall_mem_cons.mpr ⟨lw_p55, List.forall_mem_cons.mpr ⟨lw_p56, List.forall_mem_cons.mpr ⟨lw_p57, List.forall_mem_cons.mpr ⟨lw_p58, List.forall_mem_cons.mpr ⟨lw_p59, List.forall_mem_cons.mpr ⟨lw_p60, List.forall_mem_cons.mpr ⟨lw_p61, fun _ h => absurd h List.not_mem_nil⟩⟩⟩⟩⟩⟩⟩⟩⟩⟩⟩⟩⟩⟩
def lw_privs : List (MethodName × Nat) := lw_privs_1 ++ (lw_privs_2 ++ (lw_privs_3 ++ (lw_privs_4)))
def lw_tbl : List Cond := k2_sels lw_privs ++ tables_1
theorem lw_privs_ok : ∀ q ∈ lw_privs, lw_okq q := by
  show ∀ q ∈ lw_privs_1 ++ (lw_privs_2 ++ (lw_privs_3 ++ (lw_privs_4))), lw_okq q
  exact List.forall_mem_append.mpr ⟨lw_r1, List.forall_mem_append.mpr ⟨lw_r2, List.forall_mem_append.mpr ⟨lw_r3, lw_r4⟩⟩⟩
def RX0 : String := "LittlePot$Kinds"
def TX0 : u_T := fun k => match k with
  | _ => ("", "", "", false)
def tyX0 : Nat → FieldType := fun k => match k with
  | _ => .int
theorem nmX0 : ∀ a, a < 0 → ∀ b, b < 0 → a ≠ b → (TX0 a).2.1 ≠ (TX0 b).2.1 := by decide +kernel
theorem tyX0_ok : ∀ k, k < 0 → parseFieldDescriptor (TX0 k).2.2.1 = some (tyX0 k) := by decide +kernel
abbrev cX0_isKind : ByteArray := prog_2_method_2_code
def yX0_isKind : MethodName := ⟨RX0, "isKind", "(I)Z"⟩
abbrev cX0_isUnder : ByteArray := prog_2_method_3_code
def yX0_isUnder : MethodName := ⟨RX0, "isUnder", "(II)Z"⟩
abbrev cX0_eats : ByteArray := prog_2_method_4_code
def yX0_eats : MethodName := ⟨RX0, "eats", "(II)I"⟩
abbrev cX0_wades : ByteArray := prog_2_method_5_code
def yX0_wades : MethodName := ⟨RX0, "wades", "(I)I"⟩
abbrev cX0_worth : ByteArray := prog_2_method_6_code
def yX0_worth : MethodName := ⟨RX0, "worth", "(II)I"⟩
abbrev cX0_gluttonWorth : ByteArray := prog_2_method_7_code
def yX0_gluttonWorth : MethodName := ⟨RX0, "gluttonWorth", "(I)I"⟩
abbrev cX0_childWorth : ByteArray := prog_2_method_8_code
def yX0_childWorth : MethodName := ⟨RX0, "childWorth", "(I)I"⟩
def RX1 : String := "LittlePot$Laws"
def TX1 : u_T := fun k => match k with
  | 0 => ("LittlePot$Laws", "texts", "[LLittlePot$Text;", true)
  | _ => ("LittlePot$Laws", "stack", "[I", true)
def tyX1 : Nat → FieldType := fun k => match k with
  | 0 => .array (.object "LittlePot$Text")
  | _ => .array .int
theorem nmX1 : ∀ a, a < 2 → ∀ b, b < 2 → a ≠ b → (TX1 a).2.1 ≠ (TX1 b).2.1 := by decide +kernel
theorem tyX1_ok : ∀ k, k < 2 → parseFieldDescriptor (TX1 k).2.2.1 = some (tyX1 k) := by decide +kernel
abbrev cX1_init : ByteArray := prog_3_method_1_code
def yX1_init : MethodName := ⟨RX1, "<init>", "()V"⟩
abbrev cX1_takes : ByteArray := prog_3_method_2_code
def yX1_takes : MethodName := ⟨RX1, "takes", "(ILLittlePot$Text;)LLittlePot$Text;"⟩
abbrev cX1_numbered : ByteArray := prog_3_method_3_code
def yX1_numbered : MethodName := ⟨RX1, "numbered", "(I)LLittlePot$Text;"⟩
abbrev cX1_last : ByteArray := prog_3_method_4_code
def yX1_last : MethodName := ⟨RX1, "last", "(II)I"⟩
abbrev cX1_counting : ByteArray := prog_3_method_5_code
def yX1_counting : MethodName := ⟨RX1, "counting", "(II)LLittlePot$Text;"⟩
abbrev cX1_given : ByteArray := prog_3_method_6_code
def yX1_given : MethodName := ⟨RX1, "given", "(LLittlePot$Text;III)I"⟩
abbrev cX1_joined : ByteArray := prog_3_method_7_code
def yX1_joined : MethodName := ⟨RX1, "joined", "(III)I"⟩
def RX2 : String := "LittlePot$Near"
def TX2 : u_T := fun k => match k with
  | _ => ("", "", "", false)
def tyX2 : Nat → FieldType := fun k => match k with
  | _ => .int
theorem nmX2 : ∀ a, a < 0 → ∀ b, b < 0 → a ≠ b → (TX2 a).2.1 ≠ (TX2 b).2.1 := by decide +kernel
theorem tyX2_ok : ∀ k, k < 0 → parseFieldDescriptor (TX2 k).2.2.1 = some (tyX2 k) := by decide +kernel
abbrev cX2_beside : ByteArray := prog_4_method_2_code
def yX2_beside : MethodName := ⟨RX2, "beside", "(II)I"⟩
def RX3 : String := "LittlePot$Reader"
def TX3 : u_T := fun k => match k with
  | 0 => ("LittlePot$Reader", "draft", "LLittlePot$Text;", false)
  | 1 => ("LittlePot$Reader", "length", "I", false)
  | 2 => ("LittlePot$Reader", "bytes", "[B", true)
  | 3 => ("LittlePot$Reader", "sort", "I", false)
  | 4 => ("LittlePot$Reader", "start", "I", false)
  | 5 => ("LittlePot$Reader", "end", "I", false)
  | 6 => ("LittlePot$Reader", "parens", "I", false)
  | _ => ("LittlePot$Reader", "nots", "I", false)
def tyX3 : Nat → FieldType := fun k => match k with
  | 0 => .object "LittlePot$Text"
  | 1 => .int
  | 2 => .array .byte
  | 3 => .int
  | 4 => .int
  | 5 => .int
  | 6 => .int
  | _ => .int
theorem nmX3 : ∀ a, a < 8 → ∀ b, b < 8 → a ≠ b → (TX3 a).2.1 ≠ (TX3 b).2.1 := by decide +kernel
theorem tyX3_ok : ∀ k, k < 8 → parseFieldDescriptor (TX3 k).2.2.1 = some (tyX3 k) := by decide +kernel
abbrev cX3_init : ByteArray := prog_5_method_1_code
def yX3_init : MethodName := ⟨RX3, "<init>", "()V"⟩
abbrev cX3_getsNumber : ByteArray := prog_5_method_2_code
def yX3_getsNumber : MethodName := ⟨RX3, "getsNumber", "(I)V"⟩
abbrev cX3_findsFault : ByteArray := prog_5_method_3_code
def yX3_findsFault : MethodName := ⟨RX3, "findsFault", "()I"⟩
abbrev cX3_goesOn : ByteArray := prog_5_method_4_code
def yX3_goesOn : MethodName := ⟨RX3, "goesOn", "()V"⟩
abbrev cX3_isLetter : ByteArray := prog_5_method_5_code
def yX3_isLetter : MethodName := ⟨RX3, "isLetter", "(I)Z"⟩
abbrev cX3_isDigit : ByteArray := prog_5_method_6_code
def yX3_isDigit : MethodName := ⟨RX3, "isDigit", "(I)Z"⟩
abbrev cX3_keyHere : ByteArray := prog_5_method_7_code
def yX3_keyHere : MethodName := ⟨RX3, "keyHere", "()I"⟩
abbrev cX3_isWord : ByteArray := prog_5_method_8_code
def yX3_isWord : MethodName := ⟨RX3, "isWord", "(Ljava/lang/String;)Z"⟩
abbrev cX3_nameHere : ByteArray := prog_5_method_9_code
def yX3_nameHere : MethodName := ⟨RX3, "nameHere", "()I"⟩
abbrev cX3_isSign : ByteArray := prog_5_method_10_code
def yX3_isSign : MethodName := ⟨RX3, "isSign", "(C)Z"⟩
abbrev cX3_readsOr : ByteArray := prog_5_method_11_code
def yX3_readsOr : MethodName := ⟨RX3, "readsOr", "()Z"⟩
abbrev cX3_readsAnd : ByteArray := prog_5_method_12_code
def yX3_readsAnd : MethodName := ⟨RX3, "readsAnd", "()Z"⟩
abbrev cX3_readsTest : ByteArray := prog_5_method_13_code
def yX3_readsTest : MethodName := ⟨RX3, "readsTest", "()Z"⟩
abbrev cX3_readsSum : ByteArray := prog_5_method_14_code
def yX3_readsSum : MethodName := ⟨RX3, "readsSum", "()Z"⟩
abbrev cX3_readsTerm : ByteArray := prog_5_method_15_code
def yX3_readsTerm : MethodName := ⟨RX3, "readsTerm", "()Z"⟩
abbrev cX3_readsPiece : ByteArray := prog_5_method_16_code
def yX3_readsPiece : MethodName := ⟨RX3, "readsPiece", "()Z"⟩
abbrev cX3_readsNot : ByteArray := prog_5_method_17_code
def yX3_readsNot : MethodName := ⟨RX3, "readsNot", "()Z"⟩
abbrev cX3_readsParen : ByteArray := prog_5_method_18_code
def yX3_readsParen : MethodName := ⟨RX3, "readsParen", "()Z"⟩
abbrev cX3_numberHere : ByteArray := prog_5_method_19_code
def yX3_numberHere : MethodName := ⟨RX3, "numberHere", "()I"⟩
def RX4 : String := "LittlePot$Sheet"
def TX4 : u_T := fun k => match k with
  | 0 => ("LittlePot$Sheet", "places", "[I", true)
  | 1 => ("LittlePot$Sheet", "sort", "I", false)
  | _ => ("LittlePot$Sheet", "size", "I", false)
def tyX4 : Nat → FieldType := fun k => match k with
  | 0 => .array .int
  | 1 => .int
  | _ => .int
theorem nmX4 : ∀ a, a < 3 → ∀ b, b < 3 → a ≠ b → (TX4 a).2.1 ≠ (TX4 b).2.1 := by decide +kernel
theorem tyX4_ok : ∀ k, k < 3 → parseFieldDescriptor (TX4 k).2.2.1 = some (tyX4 k) := by decide +kernel
abbrev cX4_init : ByteArray := prog_6_method_1_code
def yX4_init : MethodName := ⟨RX4, "<init>", "()V"⟩
abbrev cX4_becomes : ByteArray := prog_6_method_2_code
def yX4_becomes : MethodName := ⟨RX4, "becomes", "(II)V"⟩
abbrev cX4_becomes_ : ByteArray := prog_6_method_3_code
def yX4_becomes_ : MethodName := ⟨RX4, "becomes", "(LLittlePot$Sheet;)V"⟩
abbrev cX4_isMissing : ByteArray := prog_6_method_4_code
def yX4_isMissing : MethodName := ⟨RX4, "isMissing", "()Z"⟩
abbrev cX4_hasPlace : ByteArray := prog_6_method_5_code
def yX4_hasPlace : MethodName := ⟨RX4, "hasPlace", "(I)Z"⟩
abbrev cX4_hasPlaces : ByteArray := prog_6_method_6_code
def yX4_hasPlaces : MethodName := ⟨RX4, "hasPlaces", "(II)Z"⟩
abbrev cX4_isNumber : ByteArray := prog_6_method_7_code
def yX4_isNumber : MethodName := ⟨RX4, "isNumber", "(I)Z"⟩
abbrev cX4_differsFrom : ByteArray := prog_6_method_8_code
def yX4_differsFrom : MethodName := ⟨RX4, "differsFrom", "([I)I"⟩
abbrev cX4_firstUnlike : ByteArray := prog_6_method_9_code
def yX4_firstUnlike : MethodName := ⟨RX4, "firstUnlike", "([I)I"⟩
abbrev cX4_poursInto : ByteArray := prog_6_method_10_code
def yX4_poursInto : MethodName := ⟨RX4, "poursInto", "([I)I"⟩
def RX5 : String := "LittlePot$Slot"
def TX5 : u_T := fun k => match k with
  | 0 => ("LittlePot$Slot", "thing", "I", false)
  | 1 => ("LittlePot$Slot", "kind", "I", false)
  | 2 => ("LittlePot$Slot", "ate", "I", false)
  | 3 => ("LittlePot$Slot", "number", "I", false)
  | _ => ("LittlePot$Slot", "row", "LLittlePot$Sheet;", true)
def tyX5 : Nat → FieldType := fun k => match k with
  | 0 => .int
  | 1 => .int
  | 2 => .int
  | 3 => .int
  | _ => .object "LittlePot$Sheet"
theorem nmX5 : ∀ a, a < 5 → ∀ b, b < 5 → a ≠ b → (TX5 a).2.1 ≠ (TX5 b).2.1 := by decide +kernel
theorem tyX5_ok : ∀ k, k < 5 → parseFieldDescriptor (TX5 k).2.2.1 = some (tyX5 k) := by decide +kernel
abbrev cX5_init : ByteArray := prog_7_method_1_code
def yX5_init : MethodName := ⟨RX5, "<init>", "()V"⟩
def RX6 : String := "LittlePot$Text"
def TX6 : u_T := fun k => match k with
  | 0 => ("LittlePot$Text", "code", "[I", true)
  | 1 => ("LittlePot$Text", "size", "I", false)
  | 2 => ("LittlePot$Text", "key", "I", false)
  | _ => ("LittlePot$Text", "leaves", "I", false)
def tyX6 : Nat → FieldType := fun k => match k with
  | 0 => .array .int
  | 1 => .int
  | 2 => .int
  | _ => .int
theorem nmX6 : ∀ a, a < 4 → ∀ b, b < 4 → a ≠ b → (TX6 a).2.1 ≠ (TX6 b).2.1 := by decide +kernel
theorem tyX6_ok : ∀ k, k < 4 → parseFieldDescriptor (TX6 k).2.2.1 = some (tyX6 k) := by decide +kernel
abbrev cX6_init : ByteArray := prog_8_method_1_code
def yX6_init : MethodName := ⟨RX6, "<init>", "()V"⟩
abbrev cX6_begins : ByteArray := prog_8_method_2_code
def yX6_begins : MethodName := ⟨RX6, "begins", "(I)V"⟩
abbrev cX6_adds : ByteArray := prog_8_method_3_code
def yX6_adds : MethodName := ⟨RX6, "adds", "(I)V"⟩
def RX7 : String := "LittlePot$Town"
def TX7 : u_T := fun k => match k with
  | 0 => ("LittlePot$Town", "heights", "[I", true)
  | 1 => ("LittlePot$Town", "walls", "[I", true)
  | 2 => ("LittlePot$Town", "parts", "[I", true)
  | 3 => ("LittlePot$Town", "kinds", "[I", true)
  | 4 => ("LittlePot$Town", "places", "[I", true)
  | 5 => ("LittlePot$Town", "ates", "[I", true)
  | 6 => ("LittlePot$Town", "rules", "[I", true)
  | 7 => ("LittlePot$Town", "eaters", "I", false)
  | 8 => ("LittlePot$Town", "pot", "I", false)
  | 9 => ("LittlePot$Town", "cooks", "Z", false)
  | 10 => ("LittlePot$Town", "minute", "I", false)
  | 11 => ("LittlePot$Town", "z", "I", false)
  | 12 => ("LittlePot$Town", "texts", "I", false)
  | _ => ("LittlePot$Town", "laws", "LLittlePot$Laws;", true)
def tyX7 : Nat → FieldType := fun k => match k with
  | 0 => .array .int
  | 1 => .array .int
  | 2 => .array .int
  | 3 => .array .int
  | 4 => .array .int
  | 5 => .array .int
  | 6 => .array .int
  | 7 => .int
  | 8 => .int
  | 9 => .boolean
  | 10 => .int
  | 11 => .int
  | 12 => .int
  | _ => .object "LittlePot$Laws"
theorem nmX7 : ∀ a, a < 14 → ∀ b, b < 14 → a ≠ b → (TX7 a).2.1 ≠ (TX7 b).2.1 := by decide +kernel
theorem tyX7_ok : ∀ k, k < 14 → parseFieldDescriptor (TX7 k).2.2.1 = some (tyX7 k) := by decide +kernel
abbrev cX7_init : ByteArray := prog_9_method_1_code
def yX7_init : MethodName := ⟨RX7, "<init>", "(LLittlePot$Laws;)V"⟩
abbrev cX7_becomes : ByteArray := prog_9_method_2_code
def yX7_becomes : MethodName := ⟨RX7, "becomes", "(LLittlePot$Town;)V"⟩
abbrev cX7_hasEater : ByteArray := prog_9_method_3_code
def yX7_hasEater : MethodName := ⟨RX7, "hasEater", "(I)Z"⟩
abbrev cX7_comes : ByteArray := prog_9_method_4_code
def yX7_comes : MethodName := ⟨RX7, "comes", "(II)I"⟩
abbrev cX7_laid : ByteArray := prog_9_method_5_code
def yX7_laid : MethodName := ⟨RX7, "laid", "(I)[I"⟩
abbrev cX7_level : ByteArray := prog_9_method_6_code
def yX7_level : MethodName := ⟨RX7, "level", "(I)I"⟩
abbrev cX7_allParts : ByteArray := prog_9_method_7_code
def yX7_allParts : MethodName := ⟨RX7, "allParts", "()I"⟩
abbrev cX7_allAte : ByteArray := prog_9_method_8_code
def yX7_allAte : MethodName := ⟨RX7, "allAte", "()I"⟩
abbrev cX7_wetCells : ByteArray := prog_9_method_9_code
def yX7_wetCells : MethodName := ⟨RX7, "wetCells", "()I"⟩
abbrev cX7_pours : ByteArray := prog_9_method_10_code
def yX7_pours : MethodName := ⟨RX7, "pours", "()I"⟩
abbrev cX7_draw : ByteArray := prog_9_method_11_code
def yX7_draw : MethodName := ⟨RX7, "draw", "()I"⟩
abbrev cX7_passes : ByteArray := prog_9_method_12_code
def yX7_passes : MethodName := ⟨RX7, "passes", "(I)V"⟩
abbrev cX7_pass : ByteArray := prog_9_method_13_code
def yX7_pass : MethodName := ⟨RX7, "pass", "()V"⟩
abbrev cX7_flows : ByteArray := prog_9_method_14_code
def yX7_flows : MethodName := ⟨RX7, "flows", "(I)V"⟩
abbrev cX7_feasts : ByteArray := prog_9_method_15_code
def yX7_feasts : MethodName := ⟨RX7, "feasts", "(I)V"⟩
abbrev cX7_fullestBeside : ByteArray := prog_9_method_16_code
def yX7_fullestBeside : MethodName := ⟨RX7, "fullestBeside", "(II)I"⟩
abbrev cX7_miceEat : ByteArray := prog_9_method_17_code
def yX7_miceEat : MethodName := ⟨RX7, "miceEat", "()V"⟩
def RX8 : String := "LittlePot$Ways"
def TX8 : u_T := fun k => match k with
  | 0 => ("LittlePot$Ways", "steps", "[I", true)
  | _ => ("LittlePot$Ways", "reached", "[I", true)
def tyX8 : Nat → FieldType := fun k => match k with
  | 0 => .array .int
  | _ => .array .int
theorem nmX8 : ∀ a, a < 2 → ∀ b, b < 2 → a ≠ b → (TX8 a).2.1 ≠ (TX8 b).2.1 := by decide +kernel
theorem tyX8_ok : ∀ k, k < 2 → parseFieldDescriptor (TX8 k).2.2.1 = some (tyX8 k) := by decide +kernel
abbrev cX8_init : ByteArray := prog_10_method_1_code
def yX8_init : MethodName := ⟨RX8, "<init>", "()V"⟩
abbrev cX8_fewest : ByteArray := prog_10_method_2_code
def yX8_fewest : MethodName := ⟨RX8, "fewest", "([IIII)I"⟩
def RX9 : String := "LittlePot"
def TX9 : u_T := fun k => match k with
  | 0 => ("LittlePot", "laws", "LLittlePot$Laws;", true)
  | 1 => ("LittlePot", "now", "LLittlePot$Town;", true)
  | 2 => ("LittlePot", "image", "LLittlePot$Town;", true)
  | 3 => ("LittlePot", "thought", "LLittlePot$Town;", true)
  | 4 => ("LittlePot", "trunk", "LLittlePot$Town;", true)
  | 5 => ("LittlePot", "reader", "LLittlePot$Reader;", true)
  | 6 => ("LittlePot", "ways", "LLittlePot$Ways;", true)
  | 7 => ("LittlePot", "sheets", "[LLittlePot$Sheet;", true)
  | 8 => ("LittlePot", "slots", "[LLittlePot$Slot;", true)
  | 9 => ("LittlePot", "waiting", "[I", true)
  | 10 => ("LittlePot", "kept", "Z", false)
  | _ => ("LittlePot", "waits", "I", false)
def tyX9 : Nat → FieldType := fun k => match k with
  | 0 => .object "LittlePot$Laws"
  | 1 => .object "LittlePot$Town"
  | 2 => .object "LittlePot$Town"
  | 3 => .object "LittlePot$Town"
  | 4 => .object "LittlePot$Town"
  | 5 => .object "LittlePot$Reader"
  | 6 => .object "LittlePot$Ways"
  | 7 => .array (.object "LittlePot$Sheet")
  | 8 => .array (.object "LittlePot$Slot")
  | 9 => .array .int
  | 10 => .boolean
  | _ => .int
theorem nmX9 : ∀ a, a < 12 → ∀ b, b < 12 → a ≠ b → (TX9 a).2.1 ≠ (TX9 b).2.1 := by decide +kernel
theorem tyX9_ok : ∀ k, k < 12 → parseFieldDescriptor (TX9 k).2.2.1 = some (tyX9 k) := by decide +kernel
abbrev cX9_init : ByteArray := prog_1_method_1_code
def yX9_init : MethodName := ⟨RX9, "<init>", "()V"⟩
abbrev cX9_eater : ByteArray := prog_1_method_2_code
def yX9_eater : MethodName := ⟨RX9, "eater", "(II)I"⟩
abbrev cX9_told : ByteArray := prog_1_method_3_code
def yX9_told : MethodName := ⟨RX9, "told", "(II)I"⟩
abbrev cX9_cell : ByteArray := prog_1_method_4_code
def yX9_cell : MethodName := ⟨RX9, "cell", "(II)I"⟩
abbrev cX9_lays : ByteArray := prog_1_method_5_code
def yX9_lays : MethodName := ⟨RX9, "lays", "(III)I"⟩
abbrev cX9_as : ByteArray := prog_1_method_6_code
def yX9_as : MethodName := ⟨RX9, "as", "(II)I"⟩
abbrev cX9_turns : ByteArray := prog_1_method_7_code
def yX9_turns : MethodName := ⟨RX9, "turns", "(II)I"⟩
abbrev cX9_sends : ByteArray := prog_1_method_8_code
def yX9_sends : MethodName := ⟨RX9, "sends", "(II)I"⟩
abbrev cX9_cook : ByteArray := prog_1_method_9_code
def yX9_cook : MethodName := ⟨RX9, "cook", "(I)I"⟩
abbrev cX9_say : ByteArray := prog_1_method_10_code
def yX9_say : MethodName := ⟨RX9, "say", "(I)I"⟩
abbrev cX9_rule : ByteArray := prog_1_method_11_code
def yX9_rule : MethodName := ⟨RX9, "rule", "(II)I"⟩
abbrev cX9_deal : ByteArray := prog_1_method_12_code
def yX9_deal : MethodName := ⟨RX9, "deal", "(I)I"⟩
abbrev cX9_seed : ByteArray := prog_1_method_13_code
def yX9_seed : MethodName := ⟨RX9, "seed", "(I)I"⟩
abbrev cX9_minutes : ByteArray := prog_1_method_14_code
def yX9_minutes : MethodName := ⟨RX9, "minutes", "(I)I"⟩
abbrev cX9_town : ByteArray := prog_1_method_15_code
def yX9_town : MethodName := ⟨RX9, "town", "(I)I"⟩
abbrev cX9_path : ByteArray := prog_1_method_16_code
def yX9_path : MethodName := ⟨RX9, "path", "(III)I"⟩
abbrev cX9_behind : ByteArray := prog_1_method_17_code
def yX9_behind : MethodName := ⟨RX9, "behind", "(II)I"⟩
abbrev cX9_wets : ByteArray := prog_1_method_18_code
def yX9_wets : MethodName := ⟨RX9, "wets", "(I)I"⟩
abbrev cX9_deepest : ByteArray := prog_1_method_19_code
def yX9_deepest : MethodName := ⟨RX9, "deepest", "(II)I"⟩
abbrev cX9_walled : ByteArray := prog_1_method_20_code
def yX9_walled : MethodName := ⟨RX9, "walled", "(III)I"⟩
abbrev cX9_enough : ByteArray := prog_1_method_21_code
def yX9_enough : MethodName := ⟨RX9, "enough", "(II)I"⟩
abbrev cX9_stood : ByteArray := prog_1_method_22_code
def yX9_stood : MethodName := ⟨RX9, "stood", "(III)I"⟩
abbrev cX9_fee : ByteArray := prog_1_method_23_code
def yX9_fee : MethodName := ⟨RX9, "fee", "()I"⟩
abbrev cX9_fine : ByteArray := prog_1_method_24_code
def yX9_fine : MethodName := ⟨RX9, "fine", "(I)I"⟩
abbrev cX9_feed : ByteArray := prog_1_method_25_code
def yX9_feed : MethodName := ⟨RX9, "feed", "(III)I"⟩
abbrev cX9_trim : ByteArray := prog_1_method_26_code
def yX9_trim : MethodName := ⟨RX9, "trim", "(I)I"⟩
abbrev cX9_text : ByteArray := prog_1_method_27_code
def yX9_text : MethodName := ⟨RX9, "text", "()I"⟩
abbrev cX9_textTold : ByteArray := prog_1_method_28_code
def yX9_textTold : MethodName := ⟨RX9, "textTold", "(II)I"⟩
abbrev cX9_why : ByteArray := prog_1_method_29_code
def yX9_why : MethodName := ⟨RX9, "why", "(I)I"⟩
abbrev cX9_sheet : ByteArray := prog_1_method_30_code
def yX9_sheet : MethodName := ⟨RX9, "sheet", "(III)I"⟩
abbrev cX9_mark : ByteArray := prog_1_method_31_code
def yX9_mark : MethodName := ⟨RX9, "mark", "(III)I"⟩
abbrev cX9_pour : ByteArray := prog_1_method_32_code
def yX9_pour : MethodName := ⟨RX9, "pour", "(I)I"⟩
abbrev cX9_reads : ByteArray := prog_1_method_33_code
def yX9_reads : MethodName := ⟨RX9, "reads", "(I)I"⟩
abbrev cX9_copy : ByteArray := prog_1_method_34_code
def yX9_copy : MethodName := ⟨RX9, "copy", "(IIIII)I"⟩
abbrev cX9_lay : ByteArray := prog_1_method_35_code
def yX9_lay : MethodName := ⟨RX9, "lay", "(III)I"⟩
abbrev cX9_ask : ByteArray := prog_1_method_36_code
def yX9_ask : MethodName := ⟨RX9, "ask", "(II)I"⟩
abbrev cX9_item : ByteArray := prog_1_method_37_code
def yX9_item : MethodName := ⟨RX9, "item", "(II)I"⟩
abbrev cX9_rest : ByteArray := prog_1_method_38_code
def yX9_rest : MethodName := ⟨RX9, "rest", "(II)I"⟩
abbrev cX9_tell : ByteArray := prog_1_method_39_code
def yX9_tell : MethodName := ⟨RX9, "tell", "(I)I"⟩
abbrev cX9_check : ByteArray := prog_1_method_40_code
def yX9_check : MethodName := ⟨RX9, "check", "(I)I"⟩
abbrev cX9_keep : ByteArray := prog_1_method_41_code
def yX9_keep : MethodName := ⟨RX9, "keep", "()I"⟩
abbrev cX9_back : ByteArray := prog_1_method_42_code
def yX9_back : MethodName := ⟨RX9, "back", "()I"⟩
abbrev cX9_count : ByteArray := prog_1_method_43_code
def yX9_count : MethodName := ⟨RX9, "count", "(I)I"⟩
abbrev cX9_within : ByteArray := prog_1_method_44_code
def yX9_within : MethodName := ⟨RX9, "within", "(III)Z"⟩
abbrev cX9_isCell : ByteArray := prog_1_method_45_code
def yX9_isCell : MethodName := ⟨RX9, "isCell", "(I)Z"⟩
abbrev cX9_isSheet : ByteArray := prog_1_method_46_code
def yX9_isSheet : MethodName := ⟨RX9, "isSheet", "(I)Z"⟩
abbrev cX9_isSlot : ByteArray := prog_1_method_47_code
def yX9_isSlot : MethodName := ⟨RX9, "isSlot", "(I)Z"⟩
abbrev cX9_unlessHeld : ByteArray := prog_1_method_48_code
def yX9_unlessHeld : MethodName := ⟨RX9, "unlessHeld", "(II)I"⟩
abbrev cX9_waited : ByteArray := prog_1_method_49_code
def yX9_waited : MethodName := ⟨RX9, "waited", "(III)Z"⟩
def RX10 : String := "LittlePotModel"
def TX10 : u_T := fun k => match k with
  | 0 => ("LittlePotModel", "s", "[I", true)
  | 1 => ("LittlePotModel", "image", "[I", true)
  | 2 => ("LittlePotModel", "aside", "[I", true)
  | 3 => ("LittlePotModel", "hasImage", "Z", false)
  | 4 => ("LittlePotModel", "tSort", "[I", true)
  | 5 => ("LittlePotModel", "tSize", "[I", true)
  | 6 => ("LittlePotModel", "tNumber", "[I", true)
  | 7 => ("LittlePotModel", "held", "[I", true)
  | 8 => ("LittlePotModel", "heldNumber", "[I", true)
  | 9 => ("LittlePotModel", "heldWorth", "[I", true)
  | 10 => ("LittlePotModel", "heldSize", "[I", true)
  | 11 => ("LittlePotModel", "heldRow", "[I", true)
  | 12 => ("LittlePotModel", "met", "[I", true)
  | 13 => ("LittlePotModel", "steps0", "[I", true)
  | 14 => ("LittlePotModel", "close", "[I", true)
  | 15 => ("LittlePotModel", "tape", "[I", true)
  | 16 => ("LittlePotModel", "taped", "I", false)
  | 17 => ("LittlePotModel", "begin", "I", false)
  | 18 => ("LittlePotModel", "behind", "I", false)
  | 19 => ("LittlePotModel", "token", "I", false)
  | 20 => ("LittlePotModel", "number", "I", false)
  | 21 => ("LittlePotModel", "letter", "I", false)
  | 22 => ("LittlePotModel", "deep", "I", false)
  | 23 => ("LittlePotModel", "turned", "I", false)
  | 24 => ("LittlePotModel", "laid", "I", false)
  | 25 => ("LittlePotModel", "laidAt", "I", false)
  | 26 => ("LittlePotModel", "said", "I", false)
  | 27 => ("LittlePotModel", "named", "[I", true)
  | 28 => ("LittlePotModel", "pile", "[I", true)
  | 29 => ("LittlePotModel", "carried", "[I", true)
  | 30 => ("LittlePotModel", "waits", "[I", true)
  | 31 => ("LittlePotModel", "waiting", "I", false)
  | _ => ("LittlePotModel", "rowDue", "[I", true)
def tyX10 : Nat → FieldType := fun k => match k with
  | 0 => .array .int
  | 1 => .array .int
  | 2 => .array .int
  | 3 => .boolean
  | 4 => .array .int
  | 5 => .array .int
  | 6 => .array .int
  | 7 => .array .int
  | 8 => .array .int
  | 9 => .array .int
  | 10 => .array .int
  | 11 => .array .int
  | 12 => .array .int
  | 13 => .array .int
  | 14 => .array .int
  | 15 => .array .int
  | 16 => .int
  | 17 => .int
  | 18 => .int
  | 19 => .int
  | 20 => .int
  | 21 => .int
  | 22 => .int
  | 23 => .int
  | 24 => .int
  | 25 => .int
  | 26 => .int
  | 27 => .array .int
  | 28 => .array .int
  | 29 => .array .int
  | 30 => .array .int
  | 31 => .int
  | _ => .array .int
theorem nmX10 : ∀ a, a < 33 → ∀ b, b < 33 → a ≠ b → (TX10 a).2.1 ≠ (TX10 b).2.1 := by decide +kernel
theorem tyX10_ok : ∀ k, k < 33 → parseFieldDescriptor (TX10 k).2.2.1 = some (tyX10 k) := by decide +kernel
abbrev cX10_init : ByteArray := prog_12_method_1_code
def yX10_init : MethodName := ⟨RX10, "<init>", "()V"⟩
abbrev cX10_isIn : ByteArray := prog_12_method_2_code
def yX10_isIn : MethodName := ⟨RX10, "isIn", "(JJJ)Z"⟩
abbrev cX10_orNone : ByteArray := prog_12_method_3_code
def yX10_orNone : MethodName := ⟨RX10, "orNone", "(I)I"⟩
abbrev cX10_within : ByteArray := prog_12_method_4_code
def yX10_within : MethodName := ⟨RX10, "within", "(II)I"⟩
abbrev cX10_off : ByteArray := prog_12_method_5_code
def yX10_off : MethodName := ⟨RX10, "off", "(II)I"⟩
abbrev cX10_becomes : ByteArray := prog_12_method_6_code
def yX10_becomes : MethodName := ⟨RX10, "becomes", "(II)I"⟩
abbrev cX10_textAt : ByteArray := prog_12_method_7_code
def yX10_textAt : MethodName := ⟨RX10, "textAt", "(I)I"⟩
abbrev cX10_of : ByteArray := prog_12_method_8_code
def yX10_of : MethodName := ⟨RX10, "of", "(II)I"⟩
abbrev cX10_sets : ByteArray := prog_12_method_9_code
def yX10_sets : MethodName := ⟨RX10, "sets", "(III)V"⟩
abbrev cX10_isEater : ByteArray := prog_12_method_10_code
def yX10_isEater : MethodName := ⟨RX10, "isEater", "(I)Z"⟩
abbrev cX10_isCell : ByteArray := prog_12_method_11_code
def yX10_isCell : MethodName := ⟨RX10, "isCell", "(I)Z"⟩
abbrev cX10_isText : ByteArray := prog_12_method_12_code
def yX10_isText : MethodName := ⟨RX10, "isText", "(I)Z"⟩
abbrev cX10_drawn : ByteArray := prog_12_method_13_code
def yX10_drawn : MethodName := ⟨RX10, "drawn", "()I"⟩
abbrev cX10_beside : ByteArray := prog_12_method_14_code
def yX10_beside : MethodName := ⟨RX10, "beside", "(II)I"⟩
abbrev cX10_parts : ByteArray := prog_12_method_15_code
def yX10_parts : MethodName := ⟨RX10, "parts", "(I)I"⟩
abbrev cX10_level : ByteArray := prog_12_method_16_code
def yX10_level : MethodName := ⟨RX10, "level", "(I)I"⟩
abbrev cX10_comes : ByteArray := prog_12_method_17_code
def yX10_comes : MethodName := ⟨RX10, "comes", "(II)V"⟩
abbrev cX10_eater : ByteArray := prog_12_method_18_code
def yX10_eater : MethodName := ⟨RX10, "eater", "(II)I"⟩
abbrev cX10_eats : ByteArray := prog_12_method_19_code
def yX10_eats : MethodName := ⟨RX10, "eats", "(I)I"⟩
abbrev cX10_wades : ByteArray := prog_12_method_20_code
def yX10_wades : MethodName := ⟨RX10, "wades", "(I)I"⟩
abbrev cX10_worth : ByteArray := prog_12_method_21_code
def yX10_worth : MethodName := ⟨RX10, "worth", "(I)I"⟩
abbrev cX10_told : ByteArray := prog_12_method_22_code
def yX10_told : MethodName := ⟨RX10, "told", "(II)I"⟩
abbrev cX10_cell : ByteArray := prog_12_method_23_code
def yX10_cell : MethodName := ⟨RX10, "cell", "(II)I"⟩
abbrev cX10_lays : ByteArray := prog_12_method_24_code
def yX10_lays : MethodName := ⟨RX10, "lays", "(III)I"⟩
abbrev cX10_isOf : ByteArray := prog_12_method_25_code
def yX10_isOf : MethodName := ⟨RX10, "isOf", "(II)Z"⟩
abbrev cX10_as : ByteArray := prog_12_method_26_code
def yX10_as : MethodName := ⟨RX10, "as", "(II)I"⟩
abbrev cX10_turns : ByteArray := prog_12_method_27_code
def yX10_turns : MethodName := ⟨RX10, "turns", "(II)I"⟩
abbrev cX10_sends : ByteArray := prog_12_method_28_code
def yX10_sends : MethodName := ⟨RX10, "sends", "(II)I"⟩
abbrev cX10_cook : ByteArray := prog_12_method_29_code
def yX10_cook : MethodName := ⟨RX10, "cook", "(I)I"⟩
abbrev cX10_say : ByteArray := prog_12_method_30_code
def yX10_say : MethodName := ⟨RX10, "say", "(I)I"⟩
abbrev cX10_mostRule : ByteArray := prog_12_method_31_code
def yX10_mostRule : MethodName := ⟨RX10, "mostRule", "(I)I"⟩
abbrev cX10_rule : ByteArray := prog_12_method_32_code
def yX10_rule : MethodName := ⟨RX10, "rule", "(II)I"⟩
abbrev cX10_deal : ByteArray := prog_12_method_33_code
def yX10_deal : MethodName := ⟨RX10, "deal", "(I)I"⟩
abbrev cX10_seed : ByteArray := prog_12_method_34_code
def yX10_seed : MethodName := ⟨RX10, "seed", "(I)I"⟩
abbrev cX10_pours : ByteArray := prog_12_method_35_code
def yX10_pours : MethodName := ⟨RX10, "pours", "()I"⟩
abbrev cX10_flows : ByteArray := prog_12_method_36_code
def yX10_flows : MethodName := ⟨RX10, "flows", "(I)V"⟩
abbrev cX10_dines : ByteArray := prog_12_method_37_code
def yX10_dines : MethodName := ⟨RX10, "dines", "(I)I"⟩
abbrev cX10_goesOn : ByteArray := prog_12_method_38_code
def yX10_goesOn : MethodName := ⟨RX10, "goesOn", "()I"⟩
abbrev cX10_goesOnMany : ByteArray := prog_12_method_39_code
def yX10_goesOnMany : MethodName := ⟨RX10, "goesOnMany", "(I)V"⟩
abbrev cX10_minutes : ByteArray := prog_12_method_40_code
def yX10_minutes : MethodName := ⟨RX10, "minutes", "(I)I"⟩
abbrev cX10_allParts : ByteArray := prog_12_method_41_code
def yX10_allParts : MethodName := ⟨RX10, "allParts", "()I"⟩
abbrev cX10_allAte : ByteArray := prog_12_method_42_code
def yX10_allAte : MethodName := ⟨RX10, "allAte", "()I"⟩
abbrev cX10_manyWet : ByteArray := prog_12_method_43_code
def yX10_manyWet : MethodName := ⟨RX10, "manyWet", "()I"⟩
abbrev cX10_town : ByteArray := prog_12_method_44_code
def yX10_town : MethodName := ⟨RX10, "town", "(I)I"⟩
abbrev cX10_path : ByteArray := prog_12_method_45_code
def yX10_path : MethodName := ⟨RX10, "path", "(III)I"⟩
abbrev cX10_laysBy : ByteArray := prog_12_method_46_code
def yX10_laysBy : MethodName := ⟨RX10, "laysBy", "()V"⟩
abbrev cX10_laysBack : ByteArray := prog_12_method_47_code
def yX10_laysBack : MethodName := ⟨RX10, "laysBack", "()V"⟩
abbrev cX10_behind : ByteArray := prog_12_method_48_code
def yX10_behind : MethodName := ⟨RX10, "behind", "(II)I"⟩
abbrev cX10_wets : ByteArray := prog_12_method_49_code
def yX10_wets : MethodName := ⟨RX10, "wets", "(I)I"⟩
abbrev cX10_deepest : ByteArray := prog_12_method_50_code
def yX10_deepest : MethodName := ⟨RX10, "deepest", "(II)I"⟩
abbrev cX10_walled : ByteArray := prog_12_method_51_code
def yX10_walled : MethodName := ⟨RX10, "walled", "(III)I"⟩
abbrev cX10_enough : ByteArray := prog_12_method_52_code
def yX10_enough : MethodName := ⟨RX10, "enough", "(II)I"⟩
abbrev cX10_fee : ByteArray := prog_12_method_53_code
def yX10_fee : MethodName := ⟨RX10, "fee", "()I"⟩
abbrev cX10_fine : ByteArray := prog_12_method_54_code
def yX10_fine : MethodName := ⟨RX10, "fine", "(I)I"⟩
abbrev cX10_feed : ByteArray := prog_12_method_55_code
def yX10_feed : MethodName := ⟨RX10, "feed", "(III)I"⟩
abbrev cX10_trim : ByteArray := prog_12_method_56_code
def yX10_trim : MethodName := ⟨RX10, "trim", "(I)I"⟩
abbrev cX10_isLetter : ByteArray := prog_12_method_57_code
def yX10_isLetter : MethodName := ⟨RX10, "isLetter", "(I)Z"⟩
abbrev cX10_isDigit : ByteArray := prog_12_method_58_code
def yX10_isDigit : MethodName := ⟨RX10, "isDigit", "(I)Z"⟩
abbrev cX10_nextToken : ByteArray := prog_12_method_59_code
def yX10_nextToken : MethodName := ⟨RX10, "nextToken", "()V"⟩
abbrev cX10_isSign : ByteArray := prog_12_method_60_code
def yX10_isSign : MethodName := ⟨RX10, "isSign", "(I)Z"⟩
abbrev cX10_isWordAt : ByteArray := prog_12_method_61_code
def yX10_isWordAt : MethodName := ⟨RX10, "isWordAt", "(IIII)Z"⟩
abbrev cX10_key : ByteArray := prog_12_method_62_code
def yX10_key : MethodName := ⟨RX10, "key", "()I"⟩
abbrev cX10_isName : ByteArray := prog_12_method_63_code
def yX10_isName : MethodName := ⟨RX10, "isName", "(II)Z"⟩
abbrev cX10_step : ByteArray := prog_12_method_64_code
def yX10_step : MethodName := ⟨RX10, "step", "(II)V"⟩
abbrev cX10_either : ByteArray := prog_12_method_65_code
def yX10_either : MethodName := ⟨RX10, "either", "(I)Z"⟩
abbrev cX10_both : ByteArray := prog_12_method_66_code
def yX10_both : MethodName := ⟨RX10, "both", "(I)Z"⟩
abbrev cX10_test : ByteArray := prog_12_method_67_code
def yX10_test : MethodName := ⟨RX10, "test", "(I)Z"⟩
abbrev cX10_sum : ByteArray := prog_12_method_68_code
def yX10_sum : MethodName := ⟨RX10, "sum", "(I)Z"⟩
abbrev cX10_term : ByteArray := prog_12_method_69_code
def yX10_term : MethodName := ⟨RX10, "term", "(I)Z"⟩
abbrev cX10_part0 : ByteArray := prog_12_method_70_code
def yX10_part0 : MethodName := ⟨RX10, "part0", "(I)Z"⟩
abbrev cX10_parse : ByteArray := prog_12_method_71_code
def yX10_parse : MethodName := ⟨RX10, "parse", "()I"⟩
abbrev cX10_text : ByteArray := prog_12_method_72_code
def yX10_text : MethodName := ⟨RX10, "text", "()I"⟩
abbrev cX10_textTold : ByteArray := prog_12_method_73_code
def yX10_textTold : MethodName := ⟨RX10, "textTold", "(II)I"⟩
abbrev cX10_counts : ByteArray := prog_12_method_74_code
def yX10_counts : MethodName := ⟨RX10, "counts", "(I)I"⟩
abbrev cX10_why : ByteArray := prog_12_method_75_code
def yX10_why : MethodName := ⟨RX10, "why", "(I)I"⟩
abbrev cX10_joined : ByteArray := prog_12_method_76_code
def yX10_joined : MethodName := ⟨RX10, "joined", "(III)I"⟩
abbrev cX10_worked : ByteArray := prog_12_method_77_code
def yX10_worked : MethodName := ⟨RX10, "worked", "(I)I"⟩
abbrev cX10_isSheet : ByteArray := prog_12_method_78_code
def yX10_isSheet : MethodName := ⟨RX10, "isSheet", "(I)Z"⟩
abbrev cX10_sheet : ByteArray := prog_12_method_79_code
def yX10_sheet : MethodName := ⟨RX10, "sheet", "(III)I"⟩
abbrev cX10_mark : ByteArray := prog_12_method_80_code
def yX10_mark : MethodName := ⟨RX10, "mark", "(III)I"⟩
abbrev cX10_pour : ByteArray := prog_12_method_81_code
def yX10_pour : MethodName := ⟨RX10, "pour", "(I)I"⟩
abbrev cX10_reads : ByteArray := prog_12_method_82_code
def yX10_reads : MethodName := ⟨RX10, "reads", "(I)I"⟩
abbrev cX10_stood : ByteArray := prog_12_method_83_code
def yX10_stood : MethodName := ⟨RX10, "stood", "(III)I"⟩
abbrev cX10_copy : ByteArray := prog_12_method_84_code
def yX10_copy : MethodName := ⟨RX10, "copy", "(IIIII)I"⟩
abbrev cX10_isSlot : ByteArray := prog_12_method_85_code
def yX10_isSlot : MethodName := ⟨RX10, "isSlot", "(I)Z"⟩
abbrev cX10_lay : ByteArray := prog_12_method_86_code
def yX10_lay : MethodName := ⟨RX10, "lay", "(III)I"⟩
abbrev cX10_ask : ByteArray := prog_12_method_87_code
def yX10_ask : MethodName := ⟨RX10, "ask", "(II)I"⟩
abbrev cX10_item : ByteArray := prog_12_method_88_code
def yX10_item : MethodName := ⟨RX10, "item", "(II)I"⟩
abbrev cX10_rest : ByteArray := prog_12_method_89_code
def yX10_rest : MethodName := ⟨RX10, "rest", "(II)I"⟩
abbrev cX10_tell : ByteArray := prog_12_method_90_code
def yX10_tell : MethodName := ⟨RX10, "tell", "(I)I"⟩
abbrev cX10_setAside : ByteArray := prog_12_method_91_code
def yX10_setAside : MethodName := ⟨RX10, "setAside", "([I[I)V"⟩
abbrev cX10_check : ByteArray := prog_12_method_92_code
def yX10_check : MethodName := ⟨RX10, "check", "(I)I"⟩
abbrev cX10_keep : ByteArray := prog_12_method_93_code
def yX10_keep : MethodName := ⟨RX10, "keep", "()I"⟩
abbrev cX10_back : ByteArray := prog_12_method_94_code
def yX10_back : MethodName := ⟨RX10, "back", "()I"⟩
abbrev cX10_count : ByteArray := prog_12_method_95_code
def yX10_count : MethodName := ⟨RX10, "count", "(I)I"⟩
def RJ11 : String := "java/lang/Character"
def TJ11 : u_T := fun k => match k with
  | _ => ("", "", "", false)
def tyJ11 : Nat → FieldType := fun k => match k with
  | _ => .int
abbrev cJ11_isValidCodePoint_9a6ad : ByteArray := prog_13_method_11_code
def yJ11_isValidCodePoint_9a6ad : MethodName := ⟨RJ11, "isValidCodePoint", "(I)Z"⟩
abbrev cJ11_highSurrogate_5068e : ByteArray := prog_13_method_28_code
def yJ11_highSurrogate_5068e : MethodName := ⟨RJ11, "highSurrogate", "(I)C"⟩
abbrev cJ11_lowSurrogate_5068e : ByteArray := prog_13_method_29_code
def yJ11_lowSurrogate_5068e : MethodName := ⟨RJ11, "lowSurrogate", "(I)C"⟩
def RJ9 : String := "java/lang/Math"
def TJ9 : u_T := fun k => match k with
  | _ => ("", "", "", false)
def tyJ9 : Nat → FieldType := fun k => match k with
  | _ => .int
abbrev cJ9_abs_0f7a4 : ByteArray := prog_14_method_59_code
def yJ9_abs_0f7a4 : MethodName := ⟨RJ9, "abs", "(I)I"⟩
abbrev cJ9_max_7cf53 : ByteArray := prog_14_method_65_code
def yJ9_max_7cf53 : MethodName := ⟨RJ9, "max", "(II)I"⟩
abbrev cJ9_min_7cf53 : ByteArray := prog_14_method_69_code
def yJ9_min_7cf53 : MethodName := ⟨RJ9, "min", "(II)I"⟩
def RJ0 : String := "java/lang/String"
def TJ0 : u_T := fun k => match k with
  | _ => ("", "", "", false)
def tyJ0 : Nat → FieldType := fun k => match k with
  | _ => .int
abbrev cJ0_length_8abf5 : ByteArray := prog_15_method_54_code
def yJ0_length_8abf5 : MethodName := ⟨RJ0, "length", "()I"⟩
abbrev cJ0_charAt_5068e : ByteArray := prog_15_method_56_code
def yJ0_charAt_5068e : MethodName := ⟨RJ0, "charAt", "(I)C"⟩
abbrev cJ0_indexOf_0f7a4 : ByteArray := prog_15_method_79_code
def yJ0_indexOf_0f7a4 : MethodName := ⟨RJ0, "indexOf", "(I)I"⟩
abbrev cJ0_indexOf_7cf53 : ByteArray := prog_15_method_80_code
def yJ0_indexOf_7cf53 : MethodName := ⟨RJ0, "indexOf", "(II)I"⟩
abbrev cJ0_coder_7d493 : ByteArray := prog_15_method_152_code
def yJ0_coder_7d493 : MethodName := ⟨RJ0, "coder", "()B"⟩
abbrev cJ0_isLatin1_aae02 : ByteArray := prog_15_method_154_code
def yJ0_isLatin1_aae02 : MethodName := ⟨RJ0, "isLatin1", "()Z"⟩
abbrev cJ0_checkIndex_df160 : ByteArray := prog_15_method_155_code
def yJ0_checkIndex_df160 : MethodName := ⟨RJ0, "checkIndex", "(II)V"⟩
abbrev cJ0_checkBoundsBeginEnd_23922 : ByteArray := prog_15_method_158_code
def yJ0_checkBoundsBeginEnd_23922 : MethodName := ⟨RJ0, "checkBoundsBeginEnd", "(III)V"⟩
def RJ1 : String := "java/lang/StringLatin1"
def TJ1 : u_T := fun k => match k with
  | _ => ("", "", "", false)
def tyJ1 : Nat → FieldType := fun k => match k with
  | _ => .int
abbrev cJ1_charAt_3b067 : ByteArray := prog_16_method_2_code
def yJ1_charAt_3b067 : MethodName := ⟨RJ1, "charAt", "([BI)C"⟩
abbrev cJ1_canEncode_9a6ad : ByteArray := prog_16_method_4_code
def yJ1_canEncode_9a6ad : MethodName := ⟨RJ1, "canEncode", "(I)Z"⟩
abbrev cJ1_indexOf_4cfef : ByteArray := prog_16_method_22_code
def yJ1_indexOf_4cfef : MethodName := ⟨RJ1, "indexOf", "([BIII)I"⟩
abbrev cJ1_indexOfChar_4cfef : ByteArray := prog_16_method_23_code
def yJ1_indexOfChar_4cfef : MethodName := ⟨RJ1, "indexOfChar", "([BIII)I"⟩
def RJ2 : String := "java/lang/StringUTF16"
def TJ2 : u_T := fun k => match k with
  | _ => ("", "", "", false)
def tyJ2 : Nat → FieldType := fun k => match k with
  | _ => .int
abbrev cJ2_getChar_3b067 : ByteArray := prog_17_method_5_code
def yJ2_getChar_3b067 : MethodName := ⟨RJ2, "getChar", "([BI)C"⟩
abbrev cJ2_length_9d52b : ByteArray := prog_17_method_6_code
def yJ2_length_9d52b : MethodName := ⟨RJ2, "length", "([B)I"⟩
abbrev cJ2_indexOf_4cfef : ByteArray := prog_17_method_40_code
def yJ2_indexOf_4cfef : MethodName := ⟨RJ2, "indexOf", "([BIII)I"⟩
abbrev cJ2_indexOfChar_4cfef : ByteArray := prog_17_method_47_code
def yJ2_indexOfChar_4cfef : MethodName := ⟨RJ2, "indexOfChar", "([BIII)I"⟩
abbrev cJ2_indexOfCharUnsafe_4cfef : ByteArray := prog_17_method_48_code
def yJ2_indexOfCharUnsafe_4cfef : MethodName := ⟨RJ2, "indexOfCharUnsafe", "([BIII)I"⟩
abbrev cJ2_indexOfSupplementary_4cfef : ByteArray := prog_17_method_49_code
def yJ2_indexOfSupplementary_4cfef : MethodName := ⟨RJ2, "indexOfSupplementary", "([BIII)I"⟩
abbrev cJ2_charAt_3b067 : ByteArray := prog_17_method_83_code
def yJ2_charAt_3b067 : MethodName := ⟨RJ2, "charAt", "([BI)C"⟩
abbrev cJ2_checkIndex_2214a : ByteArray := prog_17_method_91_code
def yJ2_checkIndex_2214a : MethodName := ⟨RJ2, "checkIndex", "(I[B)V"⟩
abbrev cJ2_checkBoundsBeginEnd_d044e : ByteArray := prog_17_method_93_code
def yJ2_checkBoundsBeginEnd_d044e : MethodName := ⟨RJ2, "checkBoundsBeginEnd", "(II[B)V"⟩
def RJ10 : String := "java/lang/System"
def TJ10 : u_T := fun k => match k with
  | _ => ("", "", "", false)
def tyJ10 : Nat → FieldType := fun k => match k with
  | _ => .int
def RJ3 : String := "jdk/internal/util/Preconditions"
def TJ3 : u_T := fun k => match k with
  | _ => ("", "", "", false)
def tyJ3 : Nat → FieldType := fun k => match k with
  | _ => .int
abbrev cJ3_checkIndex_8e157 : ByteArray := prog_19_method_11_code
def yJ3_checkIndex_8e157 : MethodName := ⟨RJ3, "checkIndex", "(IILjava/util/function/BiFunction;)I"⟩
abbrev cJ3_checkFromToIndex_8c36e : ByteArray := prog_19_method_12_code
def yJ3_checkFromToIndex_8c36e : MethodName := ⟨RJ3, "checkFromToIndex", "(IIILjava/util/function/BiFunction;)I"⟩
def RL : String := "LittlePotLaw"
abbrev cL_law : ByteArray := code
def yL_law : MethodName := ⟨RL, "law", "([I)Z"⟩
end
section
/-! The pure machine: memory is a list of cells; a reference is a cell's place in it (from 1000000 on: what lies outside: static rows, texts). Cell number i lies at the address B + i. -/
def pz_TB : List Cond := lw_tbl.filter goodWord
theorem pz_good : GoodIn pz_TB pz_TB := fun w h => ⟨h, good_of_word (List.mem_filter.mp h).2⟩
theorem pz_in {w : Cond} (h : (decide (w ∈ lw_tbl) && goodWord w) = true) : w ∈ pz_TB := by
  simp only [Bool.and_eq_true, decide_eq_true_eq] at h
  exact List.mem_filter.mpr h
theorem pz_goodC {w : Cond} (h : w ∈ pz_TB) : GoodIn pz_TB (w :: pz_TB) := fun z hz => by
  rcases List.mem_cons.mp hz with rfl | hz
  · exact pz_good _ h
  · exact pz_good _ hz
abbrev pz_E : Type := (Nat × Nat × (Nat → Int32)) ⊕ (Nat × Nat × (Nat → Option Nat)) ⊕ (Nat × List Value)
abbrev pz_M : Type := List pz_E
abbrev pz_V : Type := va_G × (Nat → ClassId) × Nat × (Nat → Nat)
def pz_x (E : pz_V) (i : Nat) : Nat := if i < 1000000 then E.2.2.1 + i else E.2.2.2 i
def pz_v (E : pz_V) (v : Value) : Value := match v with
  | .ref i => .ref (pz_x E i)
  | v => v
def pz_e (E : pz_V) (c : pz_E) : va_E := match c with
  | .inl a => .inl (E.2.1 a.1, a.2.1, .inl a.2.2)
  | .inr (.inl a) => .inl (E.2.1 a.1, a.2.1, .inr (.inr (.inr (.inr (fun j => (a.2.2 j).map (pz_x E))))))
  | .inr (.inr o) => .inr (o.1, o.2.map (pz_v E))
def pz_cls : List vw_C := [(RX1, TX1, 2), (RX3, TX3, 8), (RX4, TX4, 3), (RX5, TX5, 5), (RX6, TX6, 4), (RX7, TX7, 14), (RX8, TX8, 2), (RX9, TX9, 12), (RX10, TX10, 33)]
def pz_tys (E : pz_V) : List (ClassId × FieldType) := [(E.2.1 0, .int), (E.2.1 1, .byte), (E.2.1 2, .object RX6), (E.2.1 3, .object RX4), (E.2.1 4, .object RX5)]
def pz_A (E : pz_V) : Nat → Prop := fun q => E.2.2.1 ≤ q
/-- the heap holds the memory -/
def pz_W (E : pz_V) (M : pz_M) (H : Heap) : Prop := H.size = E.2.2.1 + M.length ∧ M.length ≤ 1000000 ∧ ∀ (i : Nat) (c : pz_E), M[i]? = some c → va_at E.1 pz_cls (E.2.2.1 + i, pz_e E c) H
/-! what lies outside -/
def pz_stn (t : Nat) : String × String × Nat × List Int32 := match t with
  | 0 => ("LittlePot", "RULE_MOST", 4, [9, 99, 9, 100])
  | 1 => ("LittlePot", "LAID_MOST", 3, [20, 20, 999])
  | 2 => ("LittlePot$Kinds", "ABOVE", 6, [-1, 0, 0, 1, 2, 0])
  | _ => ("LittlePot$Near", "CELL", 144, [1, -1, 6, -1, 2, 0, 7, -1, 3, 1, 8, -1, 4, 2, 9, -1, 5, 3, 10, -1, -1, 4, 11, -1, 7, -1, 12, 0, 8, 6, 13, 1, 9, 7, 14, 2, 10, 8, 15, 3, 11, 9, 16, 4, -1, 10, 17, 5, 13, -1, 18, 6, 14, 12, 19, 7, 15, 13, 20, 8, 16, 14, 21, 9, 17, 15, 22, 10, -1, 16, 23, 11, 19, -1, 24, 12, 20, 18, 25, 13, 21, 19, 26, 14, 22, 20, 27, 15, 23, 21, 28, 16, -1, 22, 29, 17, 25, -1, 30, 18, 26, 24, 31, 19, 27, 25, 32, 20, 28, 26, 33, 21, 29, 27, 34, 22, -1, 28, 35, 23, 31, -1, -1, 24, 32, 30, -1, 25, 33, 31, -1, 26, 34, 32, -1, 27, 35, 33, -1, 28, -1, 34, -1, 29])
def pz_isN : Cond → Bool
  | .fieldLinkNest _ _ _ _ _ _ => true
  | .methodLinkNest _ _ _ _ => true
  | _ => false
def pz_nw : List Cond := lw_tbl.filter pz_isN
def pz_txt (i : Nat) : Nat × String := match i with
  | 0 => (67, "boil")
  | 1 => (75, "fee")
  | 2 => (77, "fine")
  | 3 => (90, "btp")
  | 4 => (92, "ap")
  | _ => (94, "ac")
def pz_len : List Nat := [4, 3, 4, 3, 2, 2]
def pz_byt : List (List Int32) := [[98, 111, 105, 108], [102, 101, 101], [102, 105, 110, 101], [98, 116, 112], [97, 112], [97, 99]]
def pz_SG (E : pz_V) (U : State) (H : Heap) : Prop :=
  (∀ t, t < 4 → va_Z (pz_stn t).1 (pz_stn t).2.1 "[I" (.ref (E.2.2.2 (1000000 + t))) (pz_A E) U H ∧ va_T .int (E.2.2.2 (1000000 + t)) (pz_stn t).2.2.1 (fun j => .int ((pz_stn t).2.2.2.getD j 0)) (pz_A E) U H) ∧
  (∀ w ∈ pz_nw, va_Nw w U) ∧ (va_AO RX6 U ∧ va_AO RX4 U ∧ va_AO RX5 U) ∧
  va_Z "java/lang/String" "COMPACT_STRINGS" "Z" (.int 1) (pz_A E) U H ∧ (va_Z "jdk/internal/util/Preconditions" "SIOOBE_FORMATTER" "Ljava/util/function/BiFunction;" .null (pz_A E) U H ∨ va_Z "jdk/internal/util/Preconditions" "SIOOBE_FORMATTER" "Ljava/util/function/BiFunction;" (.ref (E.2.2.2 1000040)) (pz_A E) U H) ∧
  vk_S 6 pz_len pz_byt (fun i => E.2.2.2 (1000010 + i)) (fun i => E.2.2.2 (1000020 + i)) (pz_A E) U H ∧ ∀ i, i < 6 → vk_R RX3 (pz_txt i).1 (pz_txt i).2 (E.2.2.2 (1000010 + i)) U
theorem pz_Nw_warm {s U : State} (hW : s.WarmedH U.vm) {w : Cond} (hn : pz_isN w = true) (h : va_Nw w s) : va_Nw w U := by
  cases w <;> first | (exact va_Nw.warmF hW h) | (exact va_Nw.warmM hW h) | (exact absurd hn (by simp [pz_isN]))
theorem pz_Nw_same {u U : State} (hv : u.vm = U.vm) {w : Cond} (hn : pz_isN w = true) (h : va_Nw w u) : va_Nw w U := by
  cases w <;> first | (exact va_Nw.same rfl hv h) | (exact absurd hn (by simp [pz_isN]))
theorem pz_SG.kept {E : pz_V} {U : State} {H H' : Heap} (h : pz_SG E U H) (hk : ∀ q, q < E.2.2.1 → H'[q]? = H[q]?) : pz_SG E U H' := by
  have hq : ∀ a : Nat, a < H.size → ¬ pz_A E a → H'[a]? = H[a]? := fun a _ ha => hk a (Nat.not_le.mp ha)
  obtain ⟨h1, h2, h3, h4, h5, h6, h7⟩ := h
  exact ⟨fun t ht => ⟨(h1 t ht).1.kept hq, (h1 t ht).2.kept hq⟩, h2, h3, h4.kept hq, h5.elim (fun z => Or.inl (z.kept hq)) (fun z => Or.inr (z.kept hq)), h6.kept hq, h7⟩
theorem pz_SG.warm {E : pz_V} {s U : State} {H : Heap} (hW : s.WarmedH U.vm) (h : pz_SG E s H) : pz_SG E U H := by
  obtain ⟨h1, h2, h3, h4, h5, h6, h7⟩ := h
  have hvm := hW.alike
  exact ⟨fun t ht => ⟨(h1 t ht).1.moved hvm, (h1 t ht).2.moved hvm⟩, fun w hw => pz_Nw_warm hW (List.mem_filter.mp hw).2 (h2 w hw), ⟨h3.1.moved hvm, h3.2.1.moved hvm, h3.2.2.moved hvm⟩, h4.moved hvm, h5.elim (fun z => Or.inl (z.moved hvm)) (fun z => Or.inr (z.moved hvm)), h6.moved hvm, fun i hi => (h7 i hi).warm hW⟩
theorem pz_SG.same {E : pz_V} {u U : State} {H : Heap} (hv : u.vm = U.vm) (h : pz_SG E u H) : pz_SG E U H := by
  obtain ⟨h1, h2, h3, h4, h5, h6, h7⟩ := h
  have hvm : u.vm.Alike U.vm := hv ▸ Vm.Alike.refl u.vm
  exact ⟨fun t ht => ⟨(h1 t ht).1.moved hvm, (h1 t ht).2.moved hvm⟩, fun w hw => pz_Nw_same hv (List.mem_filter.mp hw).2 (h2 w hw), ⟨h3.1.moved hvm, h3.2.1.moved hvm, h3.2.2.moved hvm⟩, h4.moved hvm, h5.elim (fun z => Or.inl (z.moved hvm)) (fun z => Or.inr (z.moved hvm)), h6.moved hvm, fun i hi => (h7 i hi).same hv.symm⟩
/-! a method: (own class, bytes, locals, depth, its name, cells, slots, what it returns) -/
abbrev pz_K : Type := String × ByteArray × Nat × Nat × String × Nat × Nat × Option FieldType
abbrev pz_own (κ : pz_K) : String := κ.1
abbrev pz_cc (κ : pz_K) : ByteArray := κ.2.1
abbrev pz_nL (κ : pz_K) : Nat := κ.2.2.1
abbrev pz_d (κ : pz_K) : Nat := κ.2.2.2.1
abbrev pz_nm (κ : pz_K) : String := κ.2.2.2.2.1
abbrev pz_mc (κ : pz_K) : Nat := κ.2.2.2.2.2.1
abbrev pz_ms (κ : pz_K) : Nat := κ.2.2.2.2.2.2.1
abbrev pz_rt (κ : pz_K) : Option FieldType := κ.2.2.2.2.2.2.2
abbrev pz_L : Type := List (Option Value)
abbrev pz_Q : Type := Option Value → pz_M → Prop
def pz_Cx (φ : pz_V → State → Prop) (κ : pz_K) (E : pz_V) (p : Program) (R : Room) (s : State) (m : MethodId) (args : Array Value) (meth : Method) (c : Code) : Prop :=
  p.tables.exec = Jvm.exec ∧ c.code = pz_cc κ ∧ c.maxLocals = pz_nL κ ∧ s.vm.findClass (pz_own κ) = some m.cls ∧ (∀ w ∈ pz_TB, w.before args s = true) ∧ meth.name = pz_nm κ ∧ pz_d κ ≤ R.frames ∧ 40 * pz_d κ ≤ R.locals ∧ R.cells = pz_mc κ ∧ R.slots = pz_ms κ ∧ va_K E.1 pz_cls (pz_tys E) s ∧ pz_SG E s s.heap ∧ E.2.2.1 ≤ s.heap.size ∧ φ E s
def pz_ls (E : pz_V) (L : pz_L) (nL : Nat) (ls : Array Slot) : Prop := L.length = nL ∧ ls.size = nL ∧ lv_wf ls ∧ ∀ (i : Nat) (v : Value), L[i]? = some (some v) → ls[i]? = some (.val (pz_v E v))
def pz_rv (ret : Option FieldType) (ins : Instr) (v : Option Value) : Prop := match ins, v with
  | .ireturn, some (.int x) => ∃ ty, ret = some ty ∧ narrow ty (.int x) = .int x
  | .areturn, some (.ref _) => (∃ n, ret = some (.object n)) ∨ ∃ t, ret = some (.array t)
  | .areturn, some .null => (∃ n, ret = some (.object n)) ∨ ∃ t, ret = some (.array t)
  | .return_, none => ret = none
  | _, _ => False
/-- from here the method comes to its end, with Q of what it answers and of the memory -/
def pz_T (φ : pz_V → State → Prop) (κ : pz_K) (Q : pz_Q) (pc : Nat) (u : Nat × Nat) (L : pz_L) (S : List Value) (M : pz_M) : Prop :=
  ∀ (E : pz_V) (p : Program) (l : Launch) (e : Env) (R : Room) (s : State) (m : MethodId) (args : Array Value) (below : List Frame) (meth : Method) (c : Code) (H : Heap) (locs : List Loc) (ls : Array Slot) (P : State → Prop),
    pz_Cx φ κ E p R s m args meth c → u.1 ≤ pz_mc κ → u.2 ≤ pz_ms κ → pz_W E M H → va_S (pz_A E) s.heap H locs → pz_ls E L (pz_nL κ) ls →
    (∀ (pc' : Nat) (H' : Heap) (locs' : List Loc) (ls' : Array Slot) (M' : pz_M) (v : Option Value) (ins : Instr), decode (pz_cc κ) pc' = .ok (ins, 1) → pz_rv (pz_rt κ) ins v → Q v M' → pz_W E M' H' → va_S (pz_A E) s.heap H' locs' →
      W p l e R s m args below meth c H' locs' (pz_mc κ) (pz_ms κ) P (F0 m pc' ls' ((v.map (pz_v E)).toList))) →
    W p l e R s m args below meth c H locs u.1 u.2 P (F0 m pc ls (S.map (pz_v E)))
/-- a method's contract: (name, own class .. what it returns) from these arguments and this memory -/
def pz_Pc (E : pz_V) (av : List Value) (M : pz_M) : Array Value → State → Prop := va_Pc (av.map (pz_v E)) (fun U => pz_W E M U.heap ∧ va_K E.1 pz_cls (pz_tys E) U ∧ pz_SG E U U.heap)
def pz_Qc (E : pz_V) (Q : pz_Q) : Array Value → State → Outcome → State → Prop := fun _ st o t => ∃ (v : Option Value) (M' : pz_M), o = .returned (v.map (pz_v E)) ∧ Q v M' ∧ pz_W E M' t.heap ∧ st.heap.size ≤ t.heap.size ∧ ∀ q, q < E.2.2.1 → t.heap[q]? = st.heap[q]?
def pz_rm (κ : pz_K) : Room := { frames := pz_d κ, cells := pz_mc κ, slots := pz_ms κ, locals := 40 * pz_d κ }
def pz_C (y : MethodName) (κ : pz_K) (av : List Value) (M : pz_M) (Q : pz_Q) : Prop :=
  ∀ (l : Launch) (E : pz_V), Met l y (.code y (pz_cc κ) (pz_nL κ) (pz_rt κ) :: pz_TB) (pz_rm κ) (pz_Pc E av M) (pz_Qc E Q) (pz_mc κ) (pz_ms κ) (pz_A E)
/-- the locals at a method's start -/
def pz_L0 : List Value → Nat → pz_L
  | _, 0 => []
  | [], n + 1 => none :: pz_L0 [] n
  | .long x :: vs, n + 1 => some (.long x) :: (match n with
    | 0 => []
    | k + 1 => none :: pz_L0 vs k)
  | .double _ :: _, n + 1 => none :: pz_L0 [] n
  | v :: vs, n + 1 => some v :: pz_L0 vs n
theorem pz_blind (E : pz_V) (av : List Value) (M : pz_M) : FrameBlind (pz_Pc E av M) := by
  intro a U g mk h
  obtain ⟨h1, h2, h3, h4⟩ := h
  exact ⟨h1, h2, va_K.moved (u := U) (U := U.calling g mk a) (Vm.Alike.refl U.vm) h3, pz_SG.same (u := U) rfl h4⟩
end
section
theorem pz_v_cat (E : pz_V) (v : Value) : (pz_v E v).category = v.category := by cases v <;> rfl
theorem pz_cats (E : pz_V) (S : List Value) : ((S.map (pz_v E)).map fun v => v.category) = S.map fun v => v.category := by
  rw [List.map_map]
  exact List.map_congr_left fun v _ => pz_v_cat E v
theorem pz_slen (E : pz_V) : ∀ av : List Value, (lg_sl (av.map (pz_v E))).length = (lg_sl av).length
  | [] => rfl
  | v :: av => by
    have ih := pz_slen E av
    simp only [lg_sl, List.map_cons, List.flatMap_cons, List.length_append] at ih ⊢
    rw [ih, pz_v_cat]
    by_cases h : v.category = 2 <;> simp [h]
theorem pz_L0_len : ∀ (av : List Value) (n : Nat), (pz_L0 av n).length = n
  | _, 0 => by cases ‹List Value› <;> rfl
  | [], n + 1 => by simp [pz_L0, pz_L0_len [] n]
  | v :: vs, n + 1 => by
    cases v with
    | long x =>
      cases n with
      | zero => rfl
      | succ k => simp [pz_L0, pz_L0_len vs k]
    | double x => simp [pz_L0, pz_L0_len [] n]
    | _ => simp [pz_L0, pz_L0_len vs n]
theorem pz_L0_at (E : pz_V) : ∀ (n o : Nat) (av : List Value) (i : Nat) (v : Value), (pz_L0 av n)[i]? = some (some v) → (o + i, pz_v E v) ∈ lv_args o (av.map (pz_v E)) := by
  intro n
  induction n using Nat.strongRecOn with
  | _ n ih =>
    intro o av i v h
    match n, av, h with
    | 0, av, h => cases av <;> simp [pz_L0] at h
    | n + 1, [], h =>
      exfalso
      cases i with
      | zero => simp [pz_L0] at h
      | succ i =>
        simp only [pz_L0, List.getElem?_cons_succ] at h
        have := ih n (by omega) 0 [] i v h
        simp [lv_args] at this
    | n + 1, w :: vs, h =>
      cases w with
      | long x =>
        cases i with
        | zero =>
          have h : some (Value.long x) = some v := by
            cases n <;> simpa [pz_L0] using h
          cases h
          simp [lv_args, pz_v]
        | succ i =>
          cases n with
          | zero => simp [pz_L0] at h
          | succ k =>
            cases i with
            | zero => simp [pz_L0] at h
            | succ i =>
              have h : (pz_L0 vs k)[i]? = some (some v) := by simpa [pz_L0] using h
              have := ih k (by omega) (o + 2) vs i v h
              rw [show o + (i + 1 + 1) = o + 2 + i by omega]
              simp only [List.map_cons, lv_args]
              exact List.mem_cons_of_mem _ this
      | double x =>
        exfalso
        cases i with
        | zero => simp [pz_L0] at h
        | succ i =>
          have h : (pz_L0 [] n)[i]? = some (some v) := by simpa [pz_L0] using h
          have := ih n (by omega) 0 [] i v h
          simp [lv_args] at this
      | _ =>
        cases i with
        | zero =>
          simp only [pz_L0, List.getElem?_cons_zero, Option.some.injEq] at h
          subst h
          simp [lv_args, pz_v]
        | succ i =>
          simp only [pz_L0, List.getElem?_cons_succ] at h
          have := ih n (by omega) (o + 1) vs i v h
          rw [show o + (i + 1) = o + 1 + i by omega]
          simp only [List.map_cons, lv_args]
          exact List.mem_cons_of_mem _ this
theorem pz_entry (E : pz_V) (av : List Value) (n : Nat) (h : (lg_sl av).length ≤ n) : pz_ls E (pz_L0 av n) n ((lg_sl (av.map (pz_v E)) ++ List.replicate (n - (lg_sl (av.map (pz_v E))).length) Slot.unset).toArray) := by
  have hl := lv_entry (av.map (pz_v E)) (n := n) (by rw [pz_slen]; exact h)
  refine ⟨pz_L0_len av n, hl.1, hl.2.1, fun i v hv => ?_⟩
  have := pz_L0_at E n 0 av i v hv
  rw [Nat.zero_add] at this
  exact hl.2.2 _ this
theorem pz_C_of {y : MethodName} {κ : pz_K} {av : List Value} {M : pz_M} {Q : pz_Q} (hy : plainName y.cls = true) (ho : y.cls = pz_own κ) (hn : y.name = pz_nm κ) (hlen : (lg_sl av).length ≤ pz_nL κ)
    (h : pz_T (fun _ _ => True) κ Q 0 (0, 0) (pz_L0 av (pz_nL κ)) [] M) : pz_C y κ av M Q := by
  intro l E
  refine Met.ofW (cc := pz_cc κ) (maxL := pz_nL κ) (ret := pz_rt κ) hy rfl ?_
  intro p e s m args below meth c s₁ B hml hv
  obtain ⟨rfl, hW, hK, hG⟩ := hv
  have hx := B.exec
  have hb := B.bytes
  have hr := B.returns
  have hts := atoms_spec (ws := .code y (pz_cc κ) (pz_nL κ) (pz_rt κ) :: pz_TB) B.pre
  have hown : s.vm.findClass (pz_own κ) = some m.cls := by rw [← ho]; exact findClass_of_methodNamed B.named
  have hlocks := B.notSynchronized
  have hin : meth.name = pz_nm κ := by rw [← hn]; exact (name_of_methodNamed B.named B.method).1
  rw [lg_entry_eq]
  refine h E p l e _ s m _ below meth c s.heap [] _ _ ⟨hx, hb, hml, hown, fun w hw => hts w (List.mem_cons_of_mem _ hw), hin, Nat.le_refl _, Nat.le_refl _, rfl, rfl, hK, hG, by rw [hW.1]; omega, trivial⟩ (Nat.zero_le _) (Nat.zero_le _) hW va_S.rf (pz_entry E av _ hlen) ?_
  intro pc' H' locs' ls' M' v ins hd hrv hq hW' hS'
  have hkeep : ∀ q, q < E.2.2.1 → H'[q]? = s.heap[q]? := fun q hq => hS'.2.1 q (by rw [hW.1]; omega) (Nat.not_le.mpr hq)
  have hQ : ∀ t : State, t.heap = H' → s.WarmedH t.vm → pz_Qc E Q (List.map (pz_v E) av).toArray s (.returned (v.map (pz_v E))) t := fun t ht _ => ⟨v, M', rfl, hq, by rw [ht]; exact hW', by rw [ht]; exact hS'.1, fun q hq => by rw [ht]; exact hkeep q hq⟩
  unfold pz_rv at hrv
  split at hrv
  · obtain ⟨ty, e1, e2⟩ := hrv
    exact W.zret hx hb (hr.trans e1) e2 hQ hS'.2.2 hd
  · rcases hrv with ⟨n, e1⟩ | ⟨t, e1⟩
    · exact W.aret hx hb (hr.trans e1) (Or.inl ⟨n, rfl⟩) (Or.inr ⟨_, rfl⟩) hQ hS'.2.2 hd
    · exact W.aret hx hb (hr.trans e1) (Or.inr ⟨t, rfl⟩) (Or.inr ⟨_, rfl⟩) hQ hS'.2.2 hd
  · rcases hrv with ⟨n, e1⟩ | ⟨t, e1⟩
    · exact W.aret hx hb (hr.trans e1) (Or.inl ⟨n, rfl⟩) (Or.inl rfl) hQ hS'.2.2 hd
    · exact W.aret hx hb (hr.trans e1) (Or.inr ⟨t, rfl⟩) (Or.inl rfl) hQ hS'.2.2 hd
  · exact W.vret hx hb (hr.trans hrv) hQ hS'.2.2 hd
  · exact hrv.elim
end
section
/-! the instructions: what each asks of what stands behind it, and that it is so -/
def pz_nth {α : Type} : List α → Nat → Option α
  | [], _ => none
  | a :: _, 0 => some a
  | _ :: l, n + 1 => pz_nth l n
def pz_set {α : Type} : List α → Nat → α → List α
  | [], _, _ => []
  | _ :: l, 0, x => x :: l
  | a :: l, n + 1, x => a :: pz_set l n x
theorem pz_nth_eq {α : Type} : ∀ (l : List α) (i : Nat), pz_nth l i = l[i]?
  | [], i => by simp [pz_nth]
  | a :: l, 0 => by simp [pz_nth]
  | a :: l, n + 1 => by simp [pz_nth, pz_nth_eq l n]
theorem pz_set_eq {α : Type} : ∀ (l : List α) (i : Nat) (x : α), pz_set l i x = l.set i x
  | [], i, x => by simp [pz_set]
  | a :: l, 0, x => by simp [pz_set]
  | a :: l, n + 1, x => by simp [pz_set, pz_set_eq l n x]
abbrev pz_k : Type := Nat → Nat × Nat → pz_L → List Value → pz_M → Prop
abbrev pz_I : Type := pz_Q → pz_k → Nat × Nat → pz_L → List Value → pz_M → Prop
def pz_S (κ : pz_K) (pc : Nat) (x : pz_I) : Prop := ∀ (φ : pz_V → State → Prop) (Q : pz_Q) (k : pz_k) (u : Nat × Nat) (L : pz_L) (S : List Value) (M : pz_M), x Q k u L S M → (∀ (pc' : Nat) (u' : Nat × Nat) (L' : pz_L) (S' : List Value) (M' : pz_M), k pc' u' L' S' M' → pz_T φ κ Q pc' u' L' S' M') → pz_T φ κ Q pc u L S M
theorem pz_ls.int {E : pz_V} {L : pz_L} {nL : Nat} {ls : Array Slot} (h : pz_ls E L nL ls) {i : Nat} {v : Value} (hi : pz_nth L i = some (some v)) : ls[i]? = some (.val (pz_v E v)) := h.2.2.2 i v (by rw [← pz_nth_eq]; exact hi)
/-- a store into a local, of one word -/
def pz_sto (L : pz_L) (i : Nat) (v : Value) : Option pz_L := match pz_nth L i with
  | none => none
  | some _ => match i with
    | 0 => some (pz_set L 0 (some v))
    | j + 1 => match pz_nth L j with
      | some (some (.long _)) => none
      | some (some (.double _)) => none
      | _ => some (pz_set L (j + 1) (some v))
theorem pz_sto_ok {E : pz_V} {L L' : pz_L} {nL : Nat} {ls : Array Slot} {i : Nat} {v : Value} (h : pz_ls E L nL ls) (hc : v.category = 1) (hs : pz_sto L i v = some L') :
    i < nL ∧ ∃ lv : List (Nat × Value), lv_has ls nL lv ∧ ∀ ls' : Array Slot, lv_has ls' nL ((i, pz_v E v) :: lv.filter (fun q => !(q.1 == i) && !(q.1 + 1 == i && q.2.category == 2))) → pz_ls E L' nL ls' := by
  have hlt : i < L.length := by
    unfold pz_sto at hs
    split at hs
    · cases hs
    · next _ hq => rw [pz_nth_eq] at hq; exact (List.getElem?_eq_some_iff.mp hq).1
  have hL' : L' = L.set i (some v) ∧ ∀ (j : Nat) (w : Value), j + 1 = i → L[j]? = some (some w) → w.category = 1 := by
    unfold pz_sto at hs
    split at hs
    · cases hs
    · cases i with
      | zero =>
        simp only [Option.some.injEq] at hs
        exact ⟨by rw [← hs, pz_set_eq], fun j w hj => by omega⟩
      | succ j =>
        dsimp only at hs
        split at hs
        · cases hs
        · cases hs
        · next hn1 hn2 =>
          simp only [Option.some.injEq] at hs
          refine ⟨by rw [← hs, pz_set_eq], fun j' w hj hw => ?_⟩
          have : j' = j := by omega
          subst this
          rw [← pz_nth_eq] at hw
          cases w with
          | long x => exact absurd hw (hn1 x)
          | double x => exact absurd hw (hn2 x)
          | _ => rfl
  obtain ⟨h1, h2, h3, h4⟩ := h
  refine ⟨by omega, (List.range nL).filterMap (fun j => match L[j]? with | some (some w) => some (j, pz_v E w) | _ => none), ⟨h2, h3, fun q hq => ?_⟩, fun ls' hl' => ⟨?_, hl'.1, hl'.2.1, fun j w hw => ?_⟩⟩
  · obtain ⟨j, hj, hq⟩ := List.mem_filterMap.mp hq
    split at hq
    · next w hw =>
      cases hq
      exact h4 j w hw
    · cases hq
  · rw [hL'.1, List.length_set]; exact h1
  · rw [hL'.1] at hw
    by_cases hj : j = i
    · subst hj
      rw [List.getElem?_set_self hlt] at hw
      cases hw
      exact hl'.2.2 (j, pz_v E v) List.mem_cons_self
    · rw [List.getElem?_set_ne (fun q => hj q.symm)] at hw
      refine hl'.2.2 (j, pz_v E w) (List.mem_cons_of_mem _ (List.mem_filter.mpr ⟨List.mem_filterMap.mpr ⟨j, List.mem_range.mpr ?_, ?_⟩, ?_⟩))
      · have := (List.getElem?_eq_some_iff.mp hw).1
        omega
      · rw [hw]
      · simp only [Bool.and_eq_true, Bool.not_eq_true', beq_eq_false_iff_ne, ne_eq, Bool.and_eq_false_iff]
        refine ⟨hj, ?_⟩
        by_cases hji : j + 1 = i
        · right
          have := hL'.2 j w hji hw
          rw [pz_v_cat, this]
          decide
        · exact Or.inl hji
def pz_ic (v : Int32) (n : Nat) : pz_I := fun Q k u L S M => k n u L (.int v :: S) M
theorem pz_s_iconst {κ : pz_K} {pc : Nat} {a : Int} {v : Int32} (hd : decode (pz_cc κ) pc = .ok (.iconst a, 1)) (hv : Int32.ofInt a = v) : pz_S κ pc (pz_ic v (pc + 1)) := by
  intro φ Q k u L S M h hk E p l e R s m args below meth c H locs ls P C h1 h2 hW hS hl hr
  have hx := C.1
  have hb := C.2.1
  exact lv_iconst hx hb hd hv (hk _ _ _ _ _ h E p l e R s m args below meth c H locs ls P C h1 h2 hW hS hl hr)
theorem pz_s_bipush {κ : pz_K} {pc : Nat} {a : Int} {v : Int32} (hd : decode (pz_cc κ) pc = .ok (.bipush a, 2)) (hv : (Int8.ofInt a).toInt32 = v) : pz_S κ pc (pz_ic v (pc + 2)) := by
  intro φ Q k u L S M h hk E p l e R s m args below meth c H locs ls P C h1 h2 hW hS hl hr
  have hx := C.1
  have hb := C.2.1
  exact lv_bipush hx hb hd hv (hk _ _ _ _ _ h E p l e R s m args below meth c H locs ls P C h1 h2 hW hS hl hr)
theorem pz_s_sipush {κ : pz_K} {pc : Nat} {a : Int} {v : Int32} (hd : decode (pz_cc κ) pc = .ok (.sipush a, 3)) (hv : (Int16.ofInt a).toInt32 = v) : pz_S κ pc (pz_ic v (pc + 3)) := by
  intro φ Q k u L S M h hk E p l e R s m args below meth c H locs ls P C h1 h2 hW hS hl hr
  have hx := C.1
  have hb := C.2.1
  exact lv_sipush hx hb hd hv (hk _ _ _ _ _ h E p l e R s m args below meth c H locs ls P C h1 h2 hW hS hl hr)
theorem pz_s_ldc {κ : pz_K} {pc : Nat} {i : Nat} {v : Int32} (hd : decode (pz_cc κ) pc = .ok (.ldc i, 2)) (hw : Cond.constant (pz_own κ) i v ∈ pz_TB) : pz_S κ pc (pz_ic v (pc + 2)) := by
  intro φ Q k u L S M h hk E p l e R s m args below meth c H locs ls P C h1 h2 hW hS hl hr
  have hx := C.1
  have hb := C.2.1
  exact lv_ldc hx hb C.2.2.2.1 (C.2.2.2.2.1 _ hw) hd (hk _ _ _ _ _ h E p l e R s m args below meth c H locs ls P C h1 h2 hW hS hl hr)
theorem pz_s_ldcw {κ : pz_K} {pc : Nat} {i : Nat} {v : Int32} (hd : decode (pz_cc κ) pc = .ok (.ldc_w i, 3)) (hw : Cond.constant (pz_own κ) i v ∈ pz_TB) : pz_S κ pc (pz_ic v (pc + 3)) := by
  intro φ Q k u L S M h hk E p l e R s m args below meth c H locs ls P C h1 h2 hW hS hl hr
  have hx := C.1
  have hb := C.2.1
  exact lv_ldcw hx hb C.2.2.2.1 (C.2.2.2.2.1 _ hw) hd (hk _ _ _ _ _ h E p l e R s m args below meth c H locs ls P C h1 h2 hW hS hl hr)
def pz_lc (v : Int64) (n : Nat) : pz_I := fun Q k u L S M => k n u L (.long v :: S) M
theorem pz_s_lconst {κ : pz_K} {pc : Nat} {a : Fin 2} {v : Int64} (hd : decode (pz_cc κ) pc = .ok (.lconst a, 1)) (hv : Int64.ofNat (a : Nat) = v) : pz_S κ pc (pz_lc v (pc + 1)) := by
  intro φ Q k u L S M h hk E p l e R s m args below meth c H locs ls P C h1 h2 hW hS hl hr
  have hx := C.1
  have hb := C.2.1
  exact lv_lconst hx hb hd hv (hk _ _ _ _ _ h E p l e R s m args below meth c H locs ls P C h1 h2 hW hS hl hr)
theorem pz_s_ldc2 {κ : pz_K} {pc : Nat} {i : Nat} {v : Int64} (hd : decode (pz_cc κ) pc = .ok (.ldc2_w i, 3)) (hw : Cond.constantLong (pz_own κ) i v ∈ pz_TB) : pz_S κ pc (pz_lc v (pc + 3)) := by
  intro φ Q k u L S M h hk E p l e R s m args below meth c H locs ls P C h1 h2 hW hS hl hr
  have hx := C.1
  have hb := C.2.1
  exact lv_ldc2 hx hb C.2.2.2.1 (C.2.2.2.2.1 _ hw) hd (hk _ _ _ _ _ h E p l e R s m args below meth c H locs ls P C h1 h2 hW hS hl hr)
def pz_null (n : Nat) : pz_I := fun Q k u L S M => k n u L (.null :: S) M
theorem pz_s_null {κ : pz_K} {pc : Nat}  (hd : decode (pz_cc κ) pc = .ok (.aconst_null, 1))  : pz_S κ pc (pz_null  (pc + 1)) := by
  intro φ Q k u L S M h hk E p l e R s m args below meth c H locs ls P C h1 h2 hW hS hl hr
  have hx := C.1
  have hb := C.2.1
  exact lv_null hx hb hd (hk _ _ _ _ _ h E p l e R s m args below meth c H locs ls P C h1 h2 hW hS hl hr)
def pz_il (i n : Nat) : pz_I := fun Q k u L S M => match pz_nth L i with
  | some (some (.int x)) => k n u L (.int x :: S) M
  | _ => False
theorem pz_s_iload_n {κ : pz_K} {pc : Nat} {a : Fin 4} {i : Nat} (hd : decode (pz_cc κ) pc = .ok (.iload_n a, 1)) (hi : (a : Nat) = i) : pz_S κ pc (pz_il i (pc + 1)) := by
  intro φ Q k u L S M h hk E p l e R s m args below meth c H locs ls P C h1 h2 hW hS hl hr
  have hx := C.1
  have hb := C.2.1
  unfold pz_il at h
  split at h
  · next x hq => exact lv_iload_n (x := x) hx hb hd hi (hl.int hq) (hk _ _ _ _ _ h E p l e R s m args below meth c H locs ls P C h1 h2 hW hS hl hr)
  · exact h.elim
theorem pz_s_iload {κ : pz_K} {pc : Nat} {i : Nat} (hd : decode (pz_cc κ) pc = .ok (.iload i, 2))  : pz_S κ pc (pz_il i (pc + 2)) := by
  intro φ Q k u L S M h hk E p l e R s m args below meth c H locs ls P C h1 h2 hW hS hl hr
  have hx := C.1
  have hb := C.2.1
  unfold pz_il at h
  split at h
  · next x hq => exact lv_iload (x := x) hx hb hd (hl.int hq) (hk _ _ _ _ _ h E p l e R s m args below meth c H locs ls P C h1 h2 hW hS hl hr)
  · exact h.elim
def pz_ll (i n : Nat) : pz_I := fun Q k u L S M => match pz_nth L i with
  | some (some (.long x)) => k n u L (.long x :: S) M
  | _ => False
theorem pz_s_lload_n {κ : pz_K} {pc : Nat} {a : Fin 4} {i : Nat} (hd : decode (pz_cc κ) pc = .ok (.lload_n a, 1)) (hi : (a : Nat) = i) : pz_S κ pc (pz_ll i (pc + 1)) := by
  intro φ Q k u L S M h hk E p l e R s m args below meth c H locs ls P C h1 h2 hW hS hl hr
  have hx := C.1
  have hb := C.2.1
  unfold pz_ll at h
  split at h
  · next x hq => exact lv_lload_n (x := x) hx hb hd hi (hl.int hq) (hk _ _ _ _ _ h E p l e R s m args below meth c H locs ls P C h1 h2 hW hS hl hr)
  · exact h.elim
theorem pz_s_lload {κ : pz_K} {pc : Nat} {i : Nat} (hd : decode (pz_cc κ) pc = .ok (.lload i, 2))  : pz_S κ pc (pz_ll i (pc + 2)) := by
  intro φ Q k u L S M h hk E p l e R s m args below meth c H locs ls P C h1 h2 hW hS hl hr
  have hx := C.1
  have hb := C.2.1
  unfold pz_ll at h
  split at h
  · next x hq => exact lv_lload (x := x) hx hb hd (hl.int hq) (hk _ _ _ _ _ h E p l e R s m args below meth c H locs ls P C h1 h2 hW hS hl hr)
  · exact h.elim
def pz_al (i n : Nat) : pz_I := fun Q k u L S M => match pz_nth L i with
  | some (some (.ref x)) => k n u L (.ref x :: S) M
  | some (some .null) => k n u L (.null :: S) M
  | _ => False
theorem pz_s_aload_n {κ : pz_K} {pc : Nat} {a : Fin 4} {i : Nat} (hd : decode (pz_cc κ) pc = .ok (.aload_n a, 1)) (hi : (a : Nat) = i) : pz_S κ pc (pz_al i (pc + 1)) := by
  intro φ Q k u L S M h hk E p l e R s m args below meth c H locs ls P C h1 h2 hW hS hl hr
  have hx := C.1
  have hb := C.2.1
  unfold pz_al at h
  split at h
  · next x hq => exact lv_aload_n (x := pz_x E x) hx hb hd hi (hl.int hq) (hk _ _ _ _ _ h E p l e R s m args below meth c H locs ls P C h1 h2 hW hS hl hr)
  · next hq => exact lv_aload_nN hx hb hd hi (hl.int hq) (hk _ _ _ _ _ h E p l e R s m args below meth c H locs ls P C h1 h2 hW hS hl hr)
  · exact h.elim
theorem pz_s_aload {κ : pz_K} {pc : Nat} {i : Nat} (hd : decode (pz_cc κ) pc = .ok (.aload i, 2))  : pz_S κ pc (pz_al i (pc + 2)) := by
  intro φ Q k u L S M h hk E p l e R s m args below meth c H locs ls P C h1 h2 hW hS hl hr
  have hx := C.1
  have hb := C.2.1
  unfold pz_al at h
  split at h
  · next x hq => exact lv_aload (x := pz_x E x) hx hb hd (hl.int hq) (hk _ _ _ _ _ h E p l e R s m args below meth c H locs ls P C h1 h2 hW hS hl hr)
  · next hq => exact lv_aloadN hx hb hd (hl.int hq) (hk _ _ _ _ _ h E p l e R s m args below meth c H locs ls P C h1 h2 hW hS hl hr)
  · exact h.elim
def pz_is (i n : Nat) : pz_I := fun Q k u L S M => match S with
  | .int x :: S => match pz_sto L i (.int x) with
    | some L => k n u L S M
    | none => False
  | _ => False
theorem pz_s_istore_n {κ : pz_K} {pc : Nat} {a : Fin 4} {i : Nat} (hd : decode (pz_cc κ) pc = .ok (.istore_n a, 1)) (hi : (a : Nat) = i) : pz_S κ pc (pz_is i (pc + 1)) := by
  intro φ Q k u L S M h hk E p l e R s m args below meth c H locs ls P C h1 h2 hW hS hl hr
  have hx := C.1
  have hb := C.2.1
  unfold pz_is at h
  split at h
  · next x S' =>
    split at h
    · next L' hq =>
      obtain ⟨hi', lv, hlv, hup⟩ := pz_sto_ok (v := .int x) hl rfl hq
      exact lv_istore_n hx hb hd hi hlv hi' rfl (fun ls' hl' => hk _ _ _ _ _ h E p l e R s m args below meth c H locs ls' P C h1 h2 hW hS (hup ls' hl') hr)
    · exact h.elim
  · exact h.elim
theorem pz_s_istore {κ : pz_K} {pc : Nat} {i : Nat} (hd : decode (pz_cc κ) pc = .ok (.istore i, 2))  : pz_S κ pc (pz_is i (pc + 2)) := by
  intro φ Q k u L S M h hk E p l e R s m args below meth c H locs ls P C h1 h2 hW hS hl hr
  have hx := C.1
  have hb := C.2.1
  unfold pz_is at h
  split at h
  · next x S' =>
    split at h
    · next L' hq =>
      obtain ⟨hi', lv, hlv, hup⟩ := pz_sto_ok (v := .int x) hl rfl hq
      exact lv_istore hx hb hd  hlv hi' rfl (fun ls' hl' => hk _ _ _ _ _ h E p l e R s m args below meth c H locs ls' P C h1 h2 hW hS (hup ls' hl') hr)
    · exact h.elim
  · exact h.elim
def pz_as (i n : Nat) : pz_I := fun Q k u L S M => match S with
  | .ref x :: S => match pz_sto L i (.ref x) with
    | some L => k n u L S M
    | none => False
  | .null :: S => match pz_sto L i .null with
    | some L => k n u L S M
    | none => False
  | _ => False
theorem pz_s_astore_n {κ : pz_K} {pc : Nat} {a : Fin 4} {i : Nat} (hd : decode (pz_cc κ) pc = .ok (.astore_n a, 1)) (hi : (a : Nat) = i) : pz_S κ pc (pz_as i (pc + 1)) := by
  intro φ Q k u L S M h hk E p l e R s m args below meth c H locs ls P C h1 h2 hW hS hl hr
  have hx := C.1
  have hb := C.2.1
  unfold pz_as at h
  split at h
  · next x S' =>
    split at h
    · next L' hq =>
      obtain ⟨hi', lv, hlv, hup⟩ := pz_sto_ok (v := .ref x) hl rfl hq
      exact lv_astore_n hx hb hd hi hlv hi' rfl (fun ls' hl' => hk _ _ _ _ _ h E p l e R s m args below meth c H locs ls' P C h1 h2 hW hS (hup ls' hl') hr)
    · exact h.elim
  · next S' =>
    split at h
    · next L' hq =>
      obtain ⟨hi', lv, hlv, hup⟩ := pz_sto_ok (v := .null) hl rfl hq
      exact lv_astore_nN hx hb hd hi hlv hi' rfl (fun ls' hl' => hk _ _ _ _ _ h E p l e R s m args below meth c H locs ls' P C h1 h2 hW hS (hup ls' hl') hr)
    · exact h.elim
  · exact h.elim
theorem pz_s_astore {κ : pz_K} {pc : Nat} {i : Nat} (hd : decode (pz_cc κ) pc = .ok (.astore i, 2))  : pz_S κ pc (pz_as i (pc + 2)) := by
  intro φ Q k u L S M h hk E p l e R s m args below meth c H locs ls P C h1 h2 hW hS hl hr
  have hx := C.1
  have hb := C.2.1
  unfold pz_as at h
  split at h
  · next x S' =>
    split at h
    · next L' hq =>
      obtain ⟨hi', lv, hlv, hup⟩ := pz_sto_ok (v := .ref x) hl rfl hq
      exact lv_astore hx hb hd  hlv hi' rfl (fun ls' hl' => hk _ _ _ _ _ h E p l e R s m args below meth c H locs ls' P C h1 h2 hW hS (hup ls' hl') hr)
    · exact h.elim
  · next S' =>
    split at h
    · next L' hq =>
      obtain ⟨hi', lv, hlv, hup⟩ := pz_sto_ok (v := .null) hl rfl hq
      exact lv_astoreN hx hb hd  hlv hi' rfl (fun ls' hl' => hk _ _ _ _ _ h E p l e R s m args below meth c H locs ls' P C h1 h2 hW hS (hup ls' hl') hr)
    · exact h.elim
  · exact h.elim
def pz_inc (i : Nat) (z : Int32) (n : Nat) : pz_I := fun Q k u L S M => match pz_nth L i with
  | some (some (.int x)) => match pz_sto L i (.int (x + z)) with
    | some L => k n u L S M
    | none => False
  | _ => False
def pz_bin (f : Int32 → Int32 → Int32) (n : Nat) : pz_I := fun Q k u L S M => match S with
  | .int y :: .int x :: S => k n u L (.int (f x y) :: S) M
  | _ => False
theorem pz_s_iadd {κ : pz_K} {pc : Nat}  (hd : decode (pz_cc κ) pc = .ok (.iadd, 1))  : pz_S κ pc (pz_bin (fun x y => x + y) (pc + 1)) := by
  intro φ Q k u L S M h hk E p l e R s m args below meth c H locs ls P C h1 h2 hW hS hl hr
  have hx := C.1
  have hb := C.2.1
  unfold pz_bin at h
  split at h
  · next y x S' => exact lv_iadd (x := x) (y := y) hx hb hd (hk _ _ _ _ _ h E p l e R s m args below meth c H locs ls P C h1 h2 hW hS hl hr)
  · exact h.elim
theorem pz_s_isub {κ : pz_K} {pc : Nat}  (hd : decode (pz_cc κ) pc = .ok (.isub, 1))  : pz_S κ pc (pz_bin (fun x y => x - y) (pc + 1)) := by
  intro φ Q k u L S M h hk E p l e R s m args below meth c H locs ls P C h1 h2 hW hS hl hr
  have hx := C.1
  have hb := C.2.1
  unfold pz_bin at h
  split at h
  · next y x S' => exact lv_isub (x := x) (y := y) hx hb hd (hk _ _ _ _ _ h E p l e R s m args below meth c H locs ls P C h1 h2 hW hS hl hr)
  · exact h.elim
theorem pz_s_imul {κ : pz_K} {pc : Nat}  (hd : decode (pz_cc κ) pc = .ok (.imul, 1))  : pz_S κ pc (pz_bin (fun x y => x * y) (pc + 1)) := by
  intro φ Q k u L S M h hk E p l e R s m args below meth c H locs ls P C h1 h2 hW hS hl hr
  have hx := C.1
  have hb := C.2.1
  unfold pz_bin at h
  split at h
  · next y x S' => exact lv_imul (x := x) (y := y) hx hb hd (hk _ _ _ _ _ h E p l e R s m args below meth c H locs ls P C h1 h2 hW hS hl hr)
  · exact h.elim
theorem pz_s_iand {κ : pz_K} {pc : Nat}  (hd : decode (pz_cc κ) pc = .ok (.iand, 1))  : pz_S κ pc (pz_bin (fun x y => x &&& y) (pc + 1)) := by
  intro φ Q k u L S M h hk E p l e R s m args below meth c H locs ls P C h1 h2 hW hS hl hr
  have hx := C.1
  have hb := C.2.1
  unfold pz_bin at h
  split at h
  · next y x S' => exact lv_iand (x := x) (y := y) hx hb hd (hk _ _ _ _ _ h E p l e R s m args below meth c H locs ls P C h1 h2 hW hS hl hr)
  · exact h.elim
theorem pz_s_ishl {κ : pz_K} {pc : Nat}  (hd : decode (pz_cc κ) pc = .ok (.ishl, 1))  : pz_S κ pc (pz_bin (fun x y => x <<< (y &&& 31)) (pc + 1)) := by
  intro φ Q k u L S M h hk E p l e R s m args below meth c H locs ls P C h1 h2 hW hS hl hr
  have hx := C.1
  have hb := C.2.1
  unfold pz_bin at h
  split at h
  · next y x S' => exact lv_ishl (x := x) (y := y) hx hb hd (hk _ _ _ _ _ h E p l e R s m args below meth c H locs ls P C h1 h2 hW hS hl hr)
  · exact h.elim
theorem pz_s_ishr {κ : pz_K} {pc : Nat}  (hd : decode (pz_cc κ) pc = .ok (.ishr, 1))  : pz_S κ pc (pz_bin (fun x y => x >>> (y &&& 31)) (pc + 1)) := by
  intro φ Q k u L S M h hk E p l e R s m args below meth c H locs ls P C h1 h2 hW hS hl hr
  have hx := C.1
  have hb := C.2.1
  unfold pz_bin at h
  split at h
  · next y x S' => exact lv_ishr (x := x) (y := y) hx hb hd (hk _ _ _ _ _ h E p l e R s m args below meth c H locs ls P C h1 h2 hW hS hl hr)
  · exact h.elim
theorem pz_s_iushr {κ : pz_K} {pc : Nat}  (hd : decode (pz_cc κ) pc = .ok (.iushr, 1))  : pz_S κ pc (pz_bin (fun x y => (x.toUInt32 >>> (y.toUInt32 &&& Int32.toUInt32 31)).toInt32) (pc + 1)) := by
  intro φ Q k u L S M h hk E p l e R s m args below meth c H locs ls P C h1 h2 hW hS hl hr
  have hx := C.1
  have hb := C.2.1
  unfold pz_bin at h
  split at h
  · next y x S' => exact lv_iushr (x := x) (y := y) hx hb hd rfl (hk _ _ _ _ _ h E p l e R s m args below meth c H locs ls P C h1 h2 hW hS hl hr)
  · exact h.elim
def pz_div (f : Int32 → Int32 → Int32) (n : Nat) : pz_I := fun Q k u L S M => match S with
  | .int y :: .int x :: S => ¬ y = 0 ∧ k n u L (.int (f x y) :: S) M
  | _ => False
theorem pz_s_idiv {κ : pz_K} {pc : Nat}  (hd : decode (pz_cc κ) pc = .ok (.idiv, 1))  : pz_S κ pc (pz_div (fun x y => x / y) (pc + 1)) := by
  intro φ Q k u L S M h hk E p l e R s m args below meth c H locs ls P C h1 h2 hW hS hl hr
  have hx := C.1
  have hb := C.2.1
  unfold pz_div at h
  split at h
  · next y x S' => exact lv_idiv (x := x) (y := y) hx hb hd h.1 (hk _ _ _ _ _ h.2 E p l e R s m args below meth c H locs ls P C h1 h2 hW hS hl hr)
  · exact h.elim
theorem pz_s_irem {κ : pz_K} {pc : Nat}  (hd : decode (pz_cc κ) pc = .ok (.irem, 1))  : pz_S κ pc (pz_div (fun x y => x - x / y * y) (pc + 1)) := by
  intro φ Q k u L S M h hk E p l e R s m args below meth c H locs ls P C h1 h2 hW hS hl hr
  have hx := C.1
  have hb := C.2.1
  unfold pz_div at h
  split at h
  · next y x S' => exact lv_irem (x := x) (y := y) hx hb hd h.1 (hk _ _ _ _ _ h.2 E p l e R s m args below meth c H locs ls P C h1 h2 hW hS hl hr)
  · exact h.elim
def pz_un (f : Int32 → Int32) (n : Nat) : pz_I := fun Q k u L S M => match S with
  | .int x :: S => k n u L (.int (f x) :: S) M
  | _ => False
theorem pz_s_ineg {κ : pz_K} {pc : Nat}  (hd : decode (pz_cc κ) pc = .ok (.ineg, 1))  : pz_S κ pc (pz_un (fun x => -x) (pc + 1)) := by
  intro φ Q k u L S M h hk E p l e R s m args below meth c H locs ls P C h1 h2 hW hS hl hr
  have hx := C.1
  have hb := C.2.1
  unfold pz_un at h
  split at h
  · next x S' => exact lv_ineg (x := x) hx hb hd (hk _ _ _ _ _ h E p l e R s m args below meth c H locs ls P C h1 h2 hW hS hl hr)
  · exact h.elim
theorem pz_s_i2b {κ : pz_K} {pc : Nat}  (hd : decode (pz_cc κ) pc = .ok (.i2b, 1))  : pz_S κ pc (pz_un (fun x => x.toInt8.toInt32) (pc + 1)) := by
  intro φ Q k u L S M h hk E p l e R s m args below meth c H locs ls P C h1 h2 hW hS hl hr
  have hx := C.1
  have hb := C.2.1
  unfold pz_un at h
  split at h
  · next x S' => exact lv_i2b (x := x) hx hb hd rfl (hk _ _ _ _ _ h E p l e R s m args below meth c H locs ls P C h1 h2 hW hS hl hr)
  · exact h.elim
theorem pz_s_i2s {κ : pz_K} {pc : Nat}  (hd : decode (pz_cc κ) pc = .ok (.i2s, 1))  : pz_S κ pc (pz_un (fun x => x.toInt16.toInt32) (pc + 1)) := by
  intro φ Q k u L S M h hk E p l e R s m args below meth c H locs ls P C h1 h2 hW hS hl hr
  have hx := C.1
  have hb := C.2.1
  unfold pz_un at h
  split at h
  · next x S' => exact lv_i2s (x := x) hx hb hd rfl (hk _ _ _ _ _ h E p l e R s m args below meth c H locs ls P C h1 h2 hW hS hl hr)
  · exact h.elim
theorem pz_s_i2c {κ : pz_K} {pc : Nat}  (hd : decode (pz_cc κ) pc = .ok (.i2c, 1))  : pz_S κ pc (pz_un (fun x => (x.toUInt32 % 65536).toInt32) (pc + 1)) := by
  intro φ Q k u L S M h hk E p l e R s m args below meth c H locs ls P C h1 h2 hW hS hl hr
  have hx := C.1
  have hb := C.2.1
  unfold pz_un at h
  split at h
  · next x S' => exact lv_i2c (x := x) hx hb hd rfl (hk _ _ _ _ _ h E p l e R s m args below meth c H locs ls P C h1 h2 hW hS hl hr)
  · exact h.elim
def pz_i2l (n : Nat) : pz_I := fun Q k u L S M => match S with
  | .int x :: S => k n u L (.long x.toInt64 :: S) M
  | _ => False
theorem pz_s_i2l {κ : pz_K} {pc : Nat}  (hd : decode (pz_cc κ) pc = .ok (.i2l, 1))  : pz_S κ pc (pz_i2l  (pc + 1)) := by
  intro φ Q k u L S M h hk E p l e R s m args below meth c H locs ls P C h1 h2 hW hS hl hr
  have hx := C.1
  have hb := C.2.1
  unfold pz_i2l at h
  split at h
  · next x S' => exact lv_i2l (x := x) hx hb hd rfl (hk _ _ _ _ _ h E p l e R s m args below meth c H locs ls P C h1 h2 hW hS hl hr)
  · exact h.elim
def pz_ladd (n : Nat) : pz_I := fun Q k u L S M => match S with
  | .long y :: .long x :: S => k n u L (.long (x + y) :: S) M
  | _ => False
theorem pz_s_ladd {κ : pz_K} {pc : Nat}  (hd : decode (pz_cc κ) pc = .ok (.ladd, 1))  : pz_S κ pc (pz_ladd  (pc + 1)) := by
  intro φ Q k u L S M h hk E p l e R s m args below meth c H locs ls P C h1 h2 hW hS hl hr
  have hx := C.1
  have hb := C.2.1
  unfold pz_ladd at h
  split at h
  · next y x S' => exact lv_ladd (x := x) (y := y) hx hb hd (hk _ _ _ _ _ h E p l e R s m args below meth c H locs ls P C h1 h2 hW hS hl hr)
  · exact h.elim
def pz_lcmp (n : Nat) : pz_I := fun Q k u L S M => match S with
  | .long y :: .long x :: S => k n u L (.int (lg_cmp x y) :: S) M
  | _ => False
theorem pz_s_lcmp {κ : pz_K} {pc : Nat}  (hd : decode (pz_cc κ) pc = .ok (.lcmp, 1))  : pz_S κ pc (pz_lcmp  (pc + 1)) := by
  intro φ Q k u L S M h hk E p l e R s m args below meth c H locs ls P C h1 h2 hW hS hl hr
  have hx := C.1
  have hb := C.2.1
  unfold pz_lcmp at h
  split at h
  · next y x S' => exact W.lcmp (x := x) (y := y) hx hb hd (hk _ _ _ _ _ h E p l e R s m args below meth c H locs ls P C h1 h2 hW hS hl hr)
  · exact h.elim
def pz_dup (n : Nat) : pz_I := fun Q k u L S M => match S with
  | .int x :: S => k n u L (.int x :: .int x :: S) M
  | .ref x :: S => k n u L (.ref x :: .ref x :: S) M
  | _ => False
theorem pz_s_dup {κ : pz_K} {pc : Nat}  (hd : decode (pz_cc κ) pc = .ok (.dup, 1))  : pz_S κ pc (pz_dup  (pc + 1)) := by
  intro φ Q k u L S M h hk E p l e R s m args below meth c H locs ls P C h1 h2 hW hS hl hr
  have hx := C.1
  have hb := C.2.1
  unfold pz_dup at h
  split at h
  · next x S' => exact lv_dup (va := .int x) hx hb hd rfl (hk _ _ _ _ _ h E p l e R s m args below meth c H locs ls P C h1 h2 hW hS hl hr)
  · next x S' => exact lv_dup (va := .ref (pz_x E x)) hx hb hd rfl (hk _ _ _ _ _ h E p l e R s m args below meth c H locs ls P C h1 h2 hW hS hl hr)
  · exact h.elim
def pz_dup2 (n : Nat) : pz_I := fun Q k u L S M => match S with
  | .int y :: .ref x :: S => k n u L (.int y :: .ref x :: .int y :: .ref x :: S) M
  | _ => False
theorem pz_s_dup2 {κ : pz_K} {pc : Nat}  (hd : decode (pz_cc κ) pc = .ok (.dup2, 1))  : pz_S κ pc (pz_dup2  (pc + 1)) := by
  intro φ Q k u L S M h hk E p l e R s m args below meth c H locs ls P C h1 h2 hW hS hl hr
  have hx := C.1
  have hb := C.2.1
  unfold pz_dup2 at h
  split at h
  · next y x S' => exact lv_dup2_11 (va := .int y) (vb := .ref (pz_x E x)) hx hb hd rfl rfl (hk _ _ _ _ _ h E p l e R s m args below meth c H locs ls P C h1 h2 hW hS hl hr)
  · exact h.elim
def pz_pop (n : Nat) : pz_I := fun Q k u L S M => match S with
  | .int _ :: S => k n u L S M
  | .ref _ :: S => k n u L S M
  | _ => False
theorem pz_s_pop {κ : pz_K} {pc : Nat}  (hd : decode (pz_cc κ) pc = .ok (.pop, 1))  : pz_S κ pc (pz_pop  (pc + 1)) := by
  intro φ Q k u L S M h hk E p l e R s m args below meth c H locs ls P C h1 h2 hW hS hl hr
  have hx := C.1
  have hb := C.2.1
  unfold pz_pop at h
  split at h
  · next x S' => exact lv_pop (va := .int x) hx hb hd rfl (hk _ _ _ _ _ h E p l e R s m args below meth c H locs ls P C h1 h2 hW hS hl hr)
  · next x S' => exact lv_pop (va := .ref (pz_x E x)) hx hb hd rfl (hk _ _ _ _ _ h E p l e R s m args below meth c H locs ls P C h1 h2 hW hS hl hr)
  · exact h.elim
def pz_goto (t n : Nat) : pz_I := fun Q k u L S M => k t u L S M
theorem pz_s_goto {κ : pz_K} {pc tgt : Nat} {off : Int}  (hd : decode (pz_cc κ) pc = .ok (.goto off, 3)) (ht : (pc : Int) + off = (tgt : Int)) : pz_S κ pc (pz_goto  tgt (pc + 3)) := by
  intro φ Q k u L S M h hk E p l e R s m args below meth c H locs ls P C h1 h2 hW hS hl hr
  have hx := C.1
  have hb := C.2.1
  exact lv_goto hx hb hd ht (hk _ _ _ _ _ h E p l e R s m args below meth c H locs ls P C h1 h2 hW hS hl hr)
def pz_if0 (c c' : Int32 → Prop) (t n : Nat) : pz_I := fun Q k u L S M => match S with
  | .int x :: S => (c x → k t u L S M) ∧ (c' x → k n u L S M)
  | _ => False
def pz_if2 (c c' : Int32 → Int32 → Prop) (t n : Nat) : pz_I := fun Q k u L S M => match S with
  | .int y :: .int x :: S => (c x y → k t u L S M) ∧ (c' x y → k n u L S M)
  | _ => False
theorem pz_s_if_eq {κ : pz_K} {pc tgt : Nat} {off : Int}  (hd : decode (pz_cc κ) pc = .ok (.ifCond .eq off, 3)) (ht : (pc : Int) + off = (tgt : Int)) : pz_S κ pc (pz_if0 (fun x => x = 0) (fun x => ¬ x = 0) tgt (pc + 3)) := by
  intro φ Q k u L S M h hk E p l e R s m args below meth c H locs ls P C h1 h2 hW hS hl hr
  have hx := C.1
  have hb := C.2.1
  unfold pz_if0 at h
  split at h
  · next x S' => exact lv_if_eq (x := x) hx hb hd ht (fun q => hk _ _ _ _ _ (h.1 q) E p l e R s m args below meth c H locs ls P C h1 h2 hW hS hl hr) (fun q => hk _ _ _ _ _ (h.2 q) E p l e R s m args below meth c H locs ls P C h1 h2 hW hS hl hr)
  · exact h.elim
theorem pz_s_if_ne {κ : pz_K} {pc tgt : Nat} {off : Int}  (hd : decode (pz_cc κ) pc = .ok (.ifCond .ne off, 3)) (ht : (pc : Int) + off = (tgt : Int)) : pz_S κ pc (pz_if0 (fun x => ¬ x = 0) (fun x => x = 0) tgt (pc + 3)) := by
  intro φ Q k u L S M h hk E p l e R s m args below meth c H locs ls P C h1 h2 hW hS hl hr
  have hx := C.1
  have hb := C.2.1
  unfold pz_if0 at h
  split at h
  · next x S' => exact lv_if_ne (x := x) hx hb hd ht (fun q => hk _ _ _ _ _ (h.1 q) E p l e R s m args below meth c H locs ls P C h1 h2 hW hS hl hr) (fun q => hk _ _ _ _ _ (h.2 q) E p l e R s m args below meth c H locs ls P C h1 h2 hW hS hl hr)
  · exact h.elim
theorem pz_s_if_lt {κ : pz_K} {pc tgt : Nat} {off : Int}  (hd : decode (pz_cc κ) pc = .ok (.ifCond .lt off, 3)) (ht : (pc : Int) + off = (tgt : Int)) : pz_S κ pc (pz_if0 (fun x => x < 0) (fun x => ¬ x < 0) tgt (pc + 3)) := by
  intro φ Q k u L S M h hk E p l e R s m args below meth c H locs ls P C h1 h2 hW hS hl hr
  have hx := C.1
  have hb := C.2.1
  unfold pz_if0 at h
  split at h
  · next x S' => exact lv_if_lt (x := x) hx hb hd ht (fun q => hk _ _ _ _ _ (h.1 q) E p l e R s m args below meth c H locs ls P C h1 h2 hW hS hl hr) (fun q => hk _ _ _ _ _ (h.2 q) E p l e R s m args below meth c H locs ls P C h1 h2 hW hS hl hr)
  · exact h.elim
theorem pz_s_if_ge {κ : pz_K} {pc tgt : Nat} {off : Int}  (hd : decode (pz_cc κ) pc = .ok (.ifCond .ge off, 3)) (ht : (pc : Int) + off = (tgt : Int)) : pz_S κ pc (pz_if0 (fun x => 0 ≤ x) (fun x => ¬ 0 ≤ x) tgt (pc + 3)) := by
  intro φ Q k u L S M h hk E p l e R s m args below meth c H locs ls P C h1 h2 hW hS hl hr
  have hx := C.1
  have hb := C.2.1
  unfold pz_if0 at h
  split at h
  · next x S' => exact lv_if_ge (x := x) hx hb hd ht (fun q => hk _ _ _ _ _ (h.1 q) E p l e R s m args below meth c H locs ls P C h1 h2 hW hS hl hr) (fun q => hk _ _ _ _ _ (h.2 q) E p l e R s m args below meth c H locs ls P C h1 h2 hW hS hl hr)
  · exact h.elim
theorem pz_s_if_gt {κ : pz_K} {pc tgt : Nat} {off : Int}  (hd : decode (pz_cc κ) pc = .ok (.ifCond .gt off, 3)) (ht : (pc : Int) + off = (tgt : Int)) : pz_S κ pc (pz_if0 (fun x => 0 < x) (fun x => ¬ 0 < x) tgt (pc + 3)) := by
  intro φ Q k u L S M h hk E p l e R s m args below meth c H locs ls P C h1 h2 hW hS hl hr
  have hx := C.1
  have hb := C.2.1
  unfold pz_if0 at h
  split at h
  · next x S' => exact lv_if_gt (x := x) hx hb hd ht (fun q => hk _ _ _ _ _ (h.1 q) E p l e R s m args below meth c H locs ls P C h1 h2 hW hS hl hr) (fun q => hk _ _ _ _ _ (h.2 q) E p l e R s m args below meth c H locs ls P C h1 h2 hW hS hl hr)
  · exact h.elim
theorem pz_s_if_le {κ : pz_K} {pc tgt : Nat} {off : Int}  (hd : decode (pz_cc κ) pc = .ok (.ifCond .le off, 3)) (ht : (pc : Int) + off = (tgt : Int)) : pz_S κ pc (pz_if0 (fun x => x ≤ 0) (fun x => ¬ x ≤ 0) tgt (pc + 3)) := by
  intro φ Q k u L S M h hk E p l e R s m args below meth c H locs ls P C h1 h2 hW hS hl hr
  have hx := C.1
  have hb := C.2.1
  unfold pz_if0 at h
  split at h
  · next x S' => exact lv_if_le (x := x) hx hb hd ht (fun q => hk _ _ _ _ _ (h.1 q) E p l e R s m args below meth c H locs ls P C h1 h2 hW hS hl hr) (fun q => hk _ _ _ _ _ (h.2 q) E p l e R s m args below meth c H locs ls P C h1 h2 hW hS hl hr)
  · exact h.elim
theorem pz_s_icmp_eq {κ : pz_K} {pc tgt : Nat} {off : Int}  (hd : decode (pz_cc κ) pc = .ok (.if_icmp .eq off, 3)) (ht : (pc : Int) + off = (tgt : Int)) : pz_S κ pc (pz_if2 (fun x y => x = y) (fun x y => ¬ x = y) tgt (pc + 3)) := by
  intro φ Q k u L S M h hk E p l e R s m args below meth c H locs ls P C h1 h2 hW hS hl hr
  have hx := C.1
  have hb := C.2.1
  unfold pz_if2 at h
  split at h
  · next y x S' => exact lv_icmp_eq (x := x) (y := y) hx hb hd ht (fun q => hk _ _ _ _ _ (h.1 q) E p l e R s m args below meth c H locs ls P C h1 h2 hW hS hl hr) (fun q => hk _ _ _ _ _ (h.2 q) E p l e R s m args below meth c H locs ls P C h1 h2 hW hS hl hr)
  · exact h.elim
theorem pz_s_icmp_ne {κ : pz_K} {pc tgt : Nat} {off : Int}  (hd : decode (pz_cc κ) pc = .ok (.if_icmp .ne off, 3)) (ht : (pc : Int) + off = (tgt : Int)) : pz_S κ pc (pz_if2 (fun x y => ¬ x = y) (fun x y => x = y) tgt (pc + 3)) := by
  intro φ Q k u L S M h hk E p l e R s m args below meth c H locs ls P C h1 h2 hW hS hl hr
  have hx := C.1
  have hb := C.2.1
  unfold pz_if2 at h
  split at h
  · next y x S' => exact lv_icmp_ne (x := x) (y := y) hx hb hd ht (fun q => hk _ _ _ _ _ (h.1 q) E p l e R s m args below meth c H locs ls P C h1 h2 hW hS hl hr) (fun q => hk _ _ _ _ _ (h.2 q) E p l e R s m args below meth c H locs ls P C h1 h2 hW hS hl hr)
  · exact h.elim
theorem pz_s_icmp_lt {κ : pz_K} {pc tgt : Nat} {off : Int}  (hd : decode (pz_cc κ) pc = .ok (.if_icmp .lt off, 3)) (ht : (pc : Int) + off = (tgt : Int)) : pz_S κ pc (pz_if2 (fun x y => x < y) (fun x y => ¬ x < y) tgt (pc + 3)) := by
  intro φ Q k u L S M h hk E p l e R s m args below meth c H locs ls P C h1 h2 hW hS hl hr
  have hx := C.1
  have hb := C.2.1
  unfold pz_if2 at h
  split at h
  · next y x S' => exact lv_icmp_lt (x := x) (y := y) hx hb hd ht (fun q => hk _ _ _ _ _ (h.1 q) E p l e R s m args below meth c H locs ls P C h1 h2 hW hS hl hr) (fun q => hk _ _ _ _ _ (h.2 q) E p l e R s m args below meth c H locs ls P C h1 h2 hW hS hl hr)
  · exact h.elim
theorem pz_s_icmp_ge {κ : pz_K} {pc tgt : Nat} {off : Int}  (hd : decode (pz_cc κ) pc = .ok (.if_icmp .ge off, 3)) (ht : (pc : Int) + off = (tgt : Int)) : pz_S κ pc (pz_if2 (fun x y => y ≤ x) (fun x y => ¬ y ≤ x) tgt (pc + 3)) := by
  intro φ Q k u L S M h hk E p l e R s m args below meth c H locs ls P C h1 h2 hW hS hl hr
  have hx := C.1
  have hb := C.2.1
  unfold pz_if2 at h
  split at h
  · next y x S' => exact lv_icmp_ge (x := x) (y := y) hx hb hd ht (fun q => hk _ _ _ _ _ (h.1 q) E p l e R s m args below meth c H locs ls P C h1 h2 hW hS hl hr) (fun q => hk _ _ _ _ _ (h.2 q) E p l e R s m args below meth c H locs ls P C h1 h2 hW hS hl hr)
  · exact h.elim
theorem pz_s_icmp_gt {κ : pz_K} {pc tgt : Nat} {off : Int}  (hd : decode (pz_cc κ) pc = .ok (.if_icmp .gt off, 3)) (ht : (pc : Int) + off = (tgt : Int)) : pz_S κ pc (pz_if2 (fun x y => y < x) (fun x y => ¬ y < x) tgt (pc + 3)) := by
  intro φ Q k u L S M h hk E p l e R s m args below meth c H locs ls P C h1 h2 hW hS hl hr
  have hx := C.1
  have hb := C.2.1
  unfold pz_if2 at h
  split at h
  · next y x S' => exact lv_icmp_gt (x := x) (y := y) hx hb hd ht (fun q => hk _ _ _ _ _ (h.1 q) E p l e R s m args below meth c H locs ls P C h1 h2 hW hS hl hr) (fun q => hk _ _ _ _ _ (h.2 q) E p l e R s m args below meth c H locs ls P C h1 h2 hW hS hl hr)
  · exact h.elim
theorem pz_s_icmp_le {κ : pz_K} {pc tgt : Nat} {off : Int}  (hd : decode (pz_cc κ) pc = .ok (.if_icmp .le off, 3)) (ht : (pc : Int) + off = (tgt : Int)) : pz_S κ pc (pz_if2 (fun x y => x ≤ y) (fun x y => ¬ x ≤ y) tgt (pc + 3)) := by
  intro φ Q k u L S M h hk E p l e R s m args below meth c H locs ls P C h1 h2 hW hS hl hr
  have hx := C.1
  have hb := C.2.1
  unfold pz_if2 at h
  split at h
  · next y x S' => exact lv_icmp_le (x := x) (y := y) hx hb hd ht (fun q => hk _ _ _ _ _ (h.1 q) E p l e R s m args below meth c H locs ls P C h1 h2 hW hS hl hr) (fun q => hk _ _ _ _ _ (h.2 q) E p l e R s m args below meth c H locs ls P C h1 h2 hW hS hl hr)
  · exact h.elim
def pz_ifnull (t n : Nat) : pz_I := fun Q k u L S M => match S with
  | .ref _ :: S => k n u L S M
  | .null :: S => k t u L S M
  | _ => False
theorem pz_s_ifnull {κ : pz_K} {pc tgt : Nat} {off : Int}  (hd : decode (pz_cc κ) pc = .ok (.ifnull off, 3)) (ht : (pc : Int) + off = (tgt : Int)) : pz_S κ pc (pz_ifnull  tgt (pc + 3)) := by
  intro φ Q k u L S M h hk E p l e R s m args below meth c H locs ls P C h1 h2 hW hS hl hr
  have hx := C.1
  have hb := C.2.1
  unfold pz_ifnull at h
  split at h
  · next x S' => exact lv_ifnull (x := pz_x E x) hx hb hd (hk _ _ _ _ _ h E p l e R s m args below meth c H locs ls P C h1 h2 hW hS hl hr)
  · next S' => exact lv_ifnullN hx hb hd ht (hk _ _ _ _ _ h E p l e R s m args below meth c H locs ls P C h1 h2 hW hS hl hr)
  · exact h.elim
def pz_ifnn (t n : Nat) : pz_I := fun Q k u L S M => match S with
  | .ref _ :: S => k t u L S M
  | .null :: S => k n u L S M
  | _ => False
theorem pz_s_ifnn {κ : pz_K} {pc tgt : Nat} {off : Int}  (hd : decode (pz_cc κ) pc = .ok (.ifnonnull off, 3)) (ht : (pc : Int) + off = (tgt : Int)) : pz_S κ pc (pz_ifnn  tgt (pc + 3)) := by
  intro φ Q k u L S M h hk E p l e R s m args below meth c H locs ls P C h1 h2 hW hS hl hr
  have hx := C.1
  have hb := C.2.1
  unfold pz_ifnn at h
  split at h
  · next x S' => exact lv_ifnonnull (x := pz_x E x) hx hb hd ht (hk _ _ _ _ _ h E p l e R s m args below meth c H locs ls P C h1 h2 hW hS hl hr)
  · next S' => exact lv_ifnonnullN hx hb hd (hk _ _ _ _ _ h E p l e R s m args below meth c H locs ls P C h1 h2 hW hS hl hr)
  · exact h.elim
theorem pz_s_iinc {κ : pz_K} {pc : Nat} {i : Nat} {a : Int} {z : Int32} (hd : decode (pz_cc κ) pc = .ok (.iinc i a, 3)) (hz : Int32.ofInt a = z) : pz_S κ pc (pz_inc i z (pc + 3)) := by
  intro φ Q k u L S M h hk E p l e R s m args below meth c H locs ls P C h1 h2 hW hS hl hr
  have hx := C.1
  have hb := C.2.1
  unfold pz_inc at h
  split at h
  · next x hq =>
    split at h
    · next L' hq' =>
      obtain ⟨hi', lv, hlv, hup⟩ := pz_sto_ok (v := .int (x + z)) hl rfl hq'
      intro T hT X
      obtain ⟨ls', e', hls'⟩ := lv_store1 (v := .int (x + z)) hlv hi' rfl
      have hg := hl.int hq
      obtain ⟨t, a, b⟩ := hk _ _ _ _ _ h E p l e R s m args below meth c H locs ls' P C h1 h2 hW hS (hup ls' hls') hr T hT X
      refine ⟨t, ?_, b⟩
      subst hz
      have hg : ls[i]? = some (.val (.int x)) := hg
      jvm_step X.here [X.here.top, ↓top_set X.here.top, hx, hb, hd, hg, e']
      exact a
    · exact h.elim
  · exact h.elim
def pz_ret  : pz_I := fun Q k u L S M => match S with
  | [.int x] => Q (some (.int x)) M
  | _ => False
theorem pz_s_ireturn {κ : pz_K} {pc : Nat} (hd : decode (pz_cc κ) pc = .ok (.ireturn, 1)) (ht : pz_rt κ = some .int) : pz_S κ pc pz_ret := by
  intro φ Q k u L S M h hk E p l e R s m args below meth c H locs ls P C h1 h2 hW hS hl hr
  have hx := C.1
  have hb := C.2.1
  unfold pz_ret at h
  split at h
  · next x => exact W.widen h1 h2 (hr pc H locs ls M (some (.int x)) .ireturn hd ⟨.int, ht, rfl⟩ h hW hS)
  · exact h.elim
def pz_zret  : pz_I := fun Q k u L S M => match S with
  | [.int x] => (x = 0 ∨ x = 1) ∧ Q (some (.int x)) M
  | _ => False
theorem pz_s_zreturn {κ : pz_K} {pc : Nat} (hd : decode (pz_cc κ) pc = .ok (.ireturn, 1)) (ht : pz_rt κ = some .boolean) : pz_S κ pc pz_zret := by
  intro φ Q k u L S M h hk E p l e R s m args below meth c H locs ls P C h1 h2 hW hS hl hr
  have hx := C.1
  have hb := C.2.1
  unfold pz_zret at h
  split at h
  · next x => exact W.widen h1 h2 (hr pc H locs ls M (some (.int x)) .ireturn hd ⟨.boolean, ht, by rcases h.1 with rfl | rfl <;> decide⟩ h.2 hW hS)
  · exact h.elim
def pz_nret (ty : FieldType) : pz_I := fun Q k u L S M => match S with
  | [.int x] => narrow ty (.int x) = .int x ∧ Q (some (.int x)) M
  | _ => False
theorem pz_s_nreturn {κ : pz_K} {pc : Nat} {ty : FieldType} (hd : decode (pz_cc κ) pc = .ok (.ireturn, 1)) (ht : pz_rt κ = some ty) : pz_S κ pc (pz_nret ty) := by
  intro φ Q k u L S M h hk E p l e R s m args below meth c H locs ls P C h1 h2 hW hS hl hr
  have hx := C.1
  have hb := C.2.1
  unfold pz_nret at h
  split at h
  · next x => exact W.widen h1 h2 (hr pc H locs ls M (some (.int x)) .ireturn hd ⟨ty, ht, h.1⟩ h.2 hW hS)
  · exact h.elim
def pz_aret  : pz_I := fun Q k u L S M => match S with
  | [.ref x] => Q (some (.ref x)) M
  | [.null] => Q (some .null) M
  | _ => False
theorem pz_s_areturn {κ : pz_K} {pc : Nat} (hd : decode (pz_cc κ) pc = .ok (.areturn, 1)) (ht : (∃ n, pz_rt κ = some (.object n)) ∨ ∃ t, pz_rt κ = some (.array t)) : pz_S κ pc pz_aret := by
  intro φ Q k u L S M h hk E p l e R s m args below meth c H locs ls P C h1 h2 hW hS hl hr
  have hx := C.1
  have hb := C.2.1
  unfold pz_aret at h
  split at h
  · next x => exact W.widen h1 h2 (hr pc H locs ls M (some (.ref x)) .areturn hd ht h hW hS)
  · exact W.widen h1 h2 (hr pc H locs ls M (some .null) .areturn hd ht h hW hS)
  · exact h.elim
def pz_vret  : pz_I := fun Q k u L S M => match S with
  | [] => Q none M
  | _ => False
theorem pz_s_vreturn {κ : pz_K} {pc : Nat} (hd : decode (pz_cc κ) pc = .ok (.return_, 1)) (ht : pz_rt κ = none) : pz_S κ pc pz_vret := by
  intro φ Q k u L S M h hk E p l e R s m args below meth c H locs ls P C h1 h2 hW hS hl hr
  have hx := C.1
  have hb := C.2.1
  unfold pz_vret at h
  split at h
  · exact W.widen h1 h2 (hr pc H locs ls M none .return_ hd ht h hW hS)
  · exact h.elim
end
section
theorem pz_W.at {E : pz_V} {M : pz_M} {H : Heap} (h : pz_W E M H) {r : Nat} {c : pz_E} (hr : pz_nth M r = some c) : va_at E.1 pz_cls (E.2.2.1 + r, pz_e E c) H ∧ pz_x E r = E.2.2.1 + r := by
  rw [pz_nth_eq] at hr
  refine ⟨h.2.2 r c hr, ?_⟩
  have h1 := (List.getElem?_eq_some_iff.mp hr).1
  have h2 := h.2.1
  unfold pz_x
  rw [if_pos (by omega)]
theorem pz_W.one {E : pz_V} {M : pz_M} {H : Heap} (h : pz_W E M H) {r : Nat} {c : pz_E} (hr : pz_nth M r = some c) : va_P E.1 pz_cls [(E.2.2.1 + r, pz_e E c)] H := by
  intro i q hq
  cases i with
  | zero => cases hq; exact (h.at hr).1
  | succ i => cases hq
theorem pz_W.set {E : pz_V} {M : pz_M} {H H' : Heap} (h : pz_W E M H) {r : Nat} {c c' : pz_E} (hr : pz_nth M r = some c) (hz : H'.size = H.size) (ho : ∀ q, q ≠ E.2.2.1 + r → H'[q]? = H[q]?) (hc : va_at E.1 pz_cls (E.2.2.1 + r, pz_e E c') H') : pz_W E (pz_set M r c') H' := by
  rw [pz_nth_eq] at hr
  have hlt := (List.getElem?_eq_some_iff.mp hr).1
  rw [pz_set_eq]
  refine ⟨by rw [hz, List.length_set]; exact h.1, by rw [List.length_set]; exact h.2.1, fun i x hi => ?_⟩
  by_cases hir : i = r
  · subst hir
    rw [List.getElem?_set_self hlt] at hi
    cases hi
    exact hc
  · rw [List.getElem?_set_ne (fun q => hir q.symm)] at hi
    exact (h.2.2 i x hi).kept (ho _ (by show E.2.2.1 + i ≠ _; omega))
theorem pz_W.push {E : pz_V} {M : pz_M} {H H' : Heap} (h : pz_W E M H) {c : pz_E} (hM : M.length < 1000000) (hz : H'.size = H.size + 1) (ho : ∀ q, q < H.size → H'[q]? = H[q]?) (hc : va_at E.1 pz_cls (H.size, pz_e E c) H') : pz_W E (M ++ [c]) H' := by
  refine ⟨by rw [hz, h.1, List.length_append]; rfl, by rw [List.length_append]; show M.length + 1 ≤ _; omega, fun i x hi => ?_⟩
  by_cases hlt : i < M.length
  · rw [List.getElem?_append_left hlt] at hi
    exact (h.2.2 i x hi).kept (ho _ (by rw [h.1]; show E.2.2.1 + i < _; omega))
  · rw [List.getElem?_append_right (by omega)] at hi
    have h0 : i - M.length < 1 := (List.getElem?_eq_some_iff.mp hi).1
    rw [show i - M.length = 0 by omega] at hi
    cases hi
    rw [show i = M.length by omega, ← h.1]
    exact hc
theorem pz_push {E : pz_V} {M : pz_M} {H H' : Heap} {H0 : Heap} {locs : List Loc} (hS : va_S (pz_A E) H0 H locs) (hz : H'.size = H.size + 1) (ho : ∀ q, q < H.size → H'[q]? = H[q]?) : va_S (pz_A E) H0 H' locs :=
  ⟨Nat.le_trans hS.1 (by omega), fun x h1 h2 => (ho x (Nat.lt_of_lt_of_le h1 hS.1)).trans (hS.2.1 x h1 h2), hS.2.2⟩
/-- a class's words are all there -/
def pz_cok (q : vw_C) : Prop := (∀ w ∈ u_ws q.1 q.2.1 q.2.2, w ∈ pz_TB) ∧ ∃ ty : Nat → FieldType, (∀ k, k < q.2.2 → parseFieldDescriptor (q.2.1 k).2.2.1 = some (ty k)) ∧ ∀ a, a < q.2.2 → ∀ b, b < q.2.2 → a ≠ b → (q.2.1 a).2.1 ≠ (q.2.1 b).2.1
theorem pz_cok0 : pz_cok (RX1, TX1, 2) := ⟨by
  have h : (u_ws RX1 TX1 2).all (fun w => decide (w ∈ lw_tbl) && goodWord w) = true := by decide +kernel
  exact fun w hw => pz_in (List.all_eq_true.mp h w hw), tyX1, tyX1_ok, nmX1⟩
theorem pz_cok1 : pz_cok (RX3, TX3, 8) := ⟨by
  have h : (u_ws RX3 TX3 8).all (fun w => decide (w ∈ lw_tbl) && goodWord w) = true := by decide +kernel
  exact fun w hw => pz_in (List.all_eq_true.mp h w hw), tyX3, tyX3_ok, nmX3⟩
theorem pz_cok2 : pz_cok (RX4, TX4, 3) := ⟨by
  have h : (u_ws RX4 TX4 3).all (fun w => decide (w ∈ lw_tbl) && goodWord w) = true := by decide +kernel
  exact fun w hw => pz_in (List.all_eq_true.mp h w hw), tyX4, tyX4_ok, nmX4⟩
theorem pz_cok3 : pz_cok (RX5, TX5, 5) := ⟨by
  have h : (u_ws RX5 TX5 5).all (fun w => decide (w ∈ lw_tbl) && goodWord w) = true := by decide +kernel
  exact fun w hw => pz_in (List.all_eq_true.mp h w hw), tyX5, tyX5_ok, nmX5⟩
theorem pz_cok4 : pz_cok (RX6, TX6, 4) := ⟨by
  have h : (u_ws RX6 TX6 4).all (fun w => decide (w ∈ lw_tbl) && goodWord w) = true := by decide +kernel
  exact fun w hw => pz_in (List.all_eq_true.mp h w hw), tyX6, tyX6_ok, nmX6⟩
theorem pz_cok5 : pz_cok (RX7, TX7, 14) := ⟨by
  have h : (u_ws RX7 TX7 14).all (fun w => decide (w ∈ lw_tbl) && goodWord w) = true := by decide +kernel
  exact fun w hw => pz_in (List.all_eq_true.mp h w hw), tyX7, tyX7_ok, nmX7⟩
theorem pz_cok6 : pz_cok (RX8, TX8, 2) := ⟨by
  have h : (u_ws RX8 TX8 2).all (fun w => decide (w ∈ lw_tbl) && goodWord w) = true := by decide +kernel
  exact fun w hw => pz_in (List.all_eq_true.mp h w hw), tyX8, tyX8_ok, nmX8⟩
theorem pz_cok7 : pz_cok (RX9, TX9, 12) := ⟨by
  have h : (u_ws RX9 TX9 12).all (fun w => decide (w ∈ lw_tbl) && goodWord w) = true := by decide +kernel
  exact fun w hw => pz_in (List.all_eq_true.mp h w hw), tyX9, tyX9_ok, nmX9⟩
theorem pz_cok8 : pz_cok (RX10, TX10, 33) := ⟨by
  have h : (u_ws RX10 TX10 33).all (fun w => decide (w ∈ lw_tbl) && goodWord w) = true := by decide +kernel
  exact fun w hw => pz_in (List.all_eq_true.mp h w hw), tyX10, tyX10_ok, nmX10⟩
theorem pz_cok_all : ∀ (ci : Nat) (q : vw_C), pz_cls[ci]? = some q → pz_cok q := by
  intro ci q h
  match ci, h with
  | 0, h => cases h; exact pz_cok0
  | 1, h => cases h; exact pz_cok1
  | 2, h => cases h; exact pz_cok2
  | 3, h => cases h; exact pz_cok3
  | 4, h => cases h; exact pz_cok4
  | 5, h => cases h; exact pz_cok5
  | 6, h => cases h; exact pz_cok6
  | 7, h => cases h; exact pz_cok7
  | 8, h => cases h; exact pz_cok8
  | n + 9, h => simp [pz_cls] at h
def pz_iald (n : Nat) : pz_I := fun Q k u L S M => match S with
  | .int i :: .ref r :: S => match pz_nth M r with
    | some (.inl (0, N, f)) => vp_in i N ∧ k n u L (.int (f i.toNatClampNeg) :: S) M
    | _ => False
  | _ => False
theorem pz_s_iald {κ : pz_K} {pc : Nat} (hd : decode (pz_cc κ) pc = .ok (.iaload, 1)) : pz_S κ pc (pz_iald (pc + 1)) := by
  intro φ Q k u L S M h hk E p l e R s m args below meth c H locs ls P C h1 h2 hW hS hl hr
  have hx := C.1
  have hb := C.2.1
  have hown := C.2.2.2.1
  have hts := C.2.2.2.2.1
  have hK := C.2.2.2.2.2.2.2.2.2.2.1
  have hG := C.2.2.2.2.2.2.2.2.2.2.2.1
  have hB := C.2.2.2.2.2.2.2.2.2.2.2.2.1
  unfold pz_iald at h
  split at h
  · next i r S' =>
    split at h
    · next N f hq =>
      have hG := (hk _ _ _ _ _ h.2 E p l e R s m args below meth c H locs ls P C h1 h2 hW hS hl hr)
      have ha := hW.at hq
      have hp := hW.one hq
      have eS : List.map (pz_v E) (.int i :: .ref r :: S') = .int i :: .ref (E.2.2.1 + r) :: List.map (pz_v E) S' := by rw [← ha.2]; rfl
      rw [eS]
      exact va_iald (D := E.1) (cl := pz_cls) (tys := pz_tys E) (f := f) hx hb hK hp 0 0 rfl rfl h.1 hd hG
    · exact h.elim
  · exact h.elim
def pz_bald (n : Nat) : pz_I := fun Q k u L S M => match S with
  | .int i :: .ref r :: S => match pz_nth M r with
    | some (.inl (1, N, f)) => vp_in i N ∧ k n u L (.int (f i.toNatClampNeg) :: S) M
    | _ => False
  | _ => False
theorem pz_s_bald {κ : pz_K} {pc : Nat} (hd : decode (pz_cc κ) pc = .ok (.baload, 1)) : pz_S κ pc (pz_bald (pc + 1)) := by
  intro φ Q k u L S M h hk E p l e R s m args below meth c H locs ls P C h1 h2 hW hS hl hr
  have hx := C.1
  have hb := C.2.1
  have hown := C.2.2.2.1
  have hts := C.2.2.2.2.1
  have hK := C.2.2.2.2.2.2.2.2.2.2.1
  have hG := C.2.2.2.2.2.2.2.2.2.2.2.1
  have hB := C.2.2.2.2.2.2.2.2.2.2.2.2.1
  unfold pz_bald at h
  split at h
  · next i r S' =>
    split at h
    · next N f hq =>
      have hG := (hk _ _ _ _ _ h.2 E p l e R s m args below meth c H locs ls P C h1 h2 hW hS hl hr)
      have ha := hW.at hq
      have hp := hW.one hq
      have eS : List.map (pz_v E) (.int i :: .ref r :: S') = .int i :: .ref (E.2.2.1 + r) :: List.map (pz_v E) S' := by rw [← ha.2]; rfl
      rw [eS]
      exact va_bald (D := E.1) (cl := pz_cls) (tys := pz_tys E) (f := f) hx hb hK hp 0 1 rfl rfl h.1 hd hG
    · exact h.elim
  · exact h.elim
def pz_aald (n : Nat) : pz_I := fun Q k u L S M => match S with
  | .int i :: .ref r :: S => match pz_nth M r with
    | some (.inr (.inl (t, N, f))) => vp_in i N ∧ k n u L (va_rf (f i.toNatClampNeg) :: S) M
    | _ => False
  | _ => False
theorem pz_rf (E : pz_V) (o : Option Nat) : pz_v E (va_rf o) = va_rf (o.map (pz_x E)) := by cases o <;> rfl
def pz_aty (t : Nat) : Option String := match t with
  | 2 => some RX6
  | 3 => some RX4
  | 4 => some RX5
  | _ => none
theorem pz_aty_ok {E : pz_V} {t : Nat} {C : String} (h : pz_aty t = some C) : (pz_tys E)[t]? = some (E.2.1 t, .object C) := by
  match t, h with
  | 0, h => cases h
  | 1, h => cases h
  | 2, h => cases h; rfl
  | 3, h => cases h; rfl
  | 4, h => cases h; rfl
  | n + 5, h => cases h
def pz_aald' (t0 n : Nat) : pz_I := fun Q k u L S M => match S with
  | .int i :: .ref r :: S => match pz_nth M r with
    | some (.inr (.inl (t, N, f))) => match t == t0 with
      | true => vp_in i N ∧ k n u L (va_rf (f i.toNatClampNeg) :: S) M
      | false => False
    | _ => False
  | _ => False
theorem pz_s_aald {κ : pz_K} {pc t0 : Nat} {C0 : String} (hd : decode (pz_cc κ) pc = .ok (.aaload, 1)) (ht0 : pz_aty t0 = some C0) : pz_S κ pc (pz_aald' t0 (pc + 1)) := by
  intro φ Q k u L S M h hk E p l e R s m args below meth c H locs ls P C h1 h2 hW hS hl hr
  have hx := C.1
  have hb := C.2.1
  have hown := C.2.2.2.1
  have hts := C.2.2.2.2.1
  have hK := C.2.2.2.2.2.2.2.2.2.2.1
  have hG := C.2.2.2.2.2.2.2.2.2.2.2.1
  have hB := C.2.2.2.2.2.2.2.2.2.2.2.2.1
  unfold pz_aald' at h
  split at h
  · next i r S' =>
    split at h
    · next t N f hq =>
      split at h
      · next ht =>
        have ht : t = t0 := by simpa using ht
        subst ht
        have hG := (hk _ _ _ _ _ h.2 E p l e R s m args below meth c H locs ls P C h1 h2 hW hS hl hr)
        have ha := hW.at hq
        have hp := hW.one hq
        have eS : List.map (pz_v E) (.int i :: .ref r :: S') = .int i :: .ref (E.2.2.1 + r) :: List.map (pz_v E) S' := by rw [← ha.2]; rfl
        rw [eS]
        rw [List.map_cons, pz_rf] at hG
        exact va_aldq (D := E.1) (cl := pz_cls) (tys := pz_tys E) (f := fun j => (f j).map (pz_x E)) hx hb hK hp 0 t rfl (pz_aty_ok ht0) h.1 hd hG
      · exact h.elim
    · exact h.elim
  · exact h.elim
def pz_iast (n : Nat) : pz_I := fun Q k u L S M => match S with
  | .int x :: .int i :: .ref r :: S => match pz_nth M r with
    | some (.inl (0, N, f)) => vp_in i N ∧ k n u L S (pz_set M r (.inl (0, N, upd f i.toNatClampNeg (x))))
    | _ => False
  | _ => False
theorem pz_s_iast {κ : pz_K} {pc : Nat} (hd : decode (pz_cc κ) pc = .ok (.iastore, 1)) : pz_S κ pc (pz_iast (pc + 1)) := by
  intro φ Q k u L S M h hk E p l e R s m args below meth c H locs ls P C h1 h2 hW hS hl hr
  have hx := C.1
  have hb := C.2.1
  have hown := C.2.2.2.1
  have hts := C.2.2.2.2.1
  have hK := C.2.2.2.2.2.2.2.2.2.2.1
  have hG := C.2.2.2.2.2.2.2.2.2.2.2.1
  have hB := C.2.2.2.2.2.2.2.2.2.2.2.2.1
  unfold pz_iast at h
  split at h
  · next x i r S' =>
    split at h
    · next N f hq =>
      have ha := hW.at hq
      have hc : H[E.2.2.1 + r]? = some (arrV (E.2.1 0) N (fun j => .int (f j))) := ha.1
      have eS : List.map (pz_v E) (.int x :: .int i :: .ref r :: S') = .int x :: .int i :: .ref (E.2.2.1 + r) :: List.map (pz_v E) S' := by rw [← ha.2]; rfl
      rw [eS]
      refine W.iast hx hb hc ((hK.2 0 _ rfl).1 N (fun j => .int (f j))) (fun q => by cases q) (by rw [arrV_size]; exact h.1) rfl rfl hd fun H1 e1 z1 o1 => ?_
      refine hk _ _ _ _ _ h.2 E p l e R s m args below meth c H1 _ ls P C h1 h2 (hW.set hq z1 o1 ?_) (hS.put z1 o1 (Nat.le_add_right _ _)) hl hr
      show H1[E.2.2.1 + r]? = some (arrV (E.2.1 0) N (fun j => .int (upd f i.toNatClampNeg (x) j)))
      rw [e1, arrV_store]
      congr 2
      funext q
      by_cases hq : q = i.toNatClampNeg
      · subst hq; simp [updV, upd, narrow]
      · simp [updV, upd, hq]
    · exact h.elim
  · exact h.elim
def pz_bast (n : Nat) : pz_I := fun Q k u L S M => match S with
  | .int x :: .int i :: .ref r :: S => match pz_nth M r with
    | some (.inl (1, N, f)) => vp_in i N ∧ k n u L S (pz_set M r (.inl (1, N, upd f i.toNatClampNeg (x.toInt8.toInt32))))
    | _ => False
  | _ => False
theorem pz_s_bast {κ : pz_K} {pc : Nat} (hd : decode (pz_cc κ) pc = .ok (.bastore, 1)) : pz_S κ pc (pz_bast (pc + 1)) := by
  intro φ Q k u L S M h hk E p l e R s m args below meth c H locs ls P C h1 h2 hW hS hl hr
  have hx := C.1
  have hb := C.2.1
  have hown := C.2.2.2.1
  have hts := C.2.2.2.2.1
  have hK := C.2.2.2.2.2.2.2.2.2.2.1
  have hG := C.2.2.2.2.2.2.2.2.2.2.2.1
  have hB := C.2.2.2.2.2.2.2.2.2.2.2.2.1
  unfold pz_bast at h
  split at h
  · next x i r S' =>
    split at h
    · next N f hq =>
      have ha := hW.at hq
      have hc : H[E.2.2.1 + r]? = some (arrV (E.2.1 1) N (fun j => .int (f j))) := ha.1
      have eS : List.map (pz_v E) (.int x :: .int i :: .ref r :: S') = .int x :: .int i :: .ref (E.2.2.1 + r) :: List.map (pz_v E) S' := by rw [← ha.2]; rfl
      rw [eS]
      refine W.bast hx hb hc ((hK.2 1 _ rfl).1 N (fun j => .int (f j))) (fun q => by cases q) (by rw [arrV_size]; exact h.1) rfl rfl hd fun H1 e1 z1 o1 => ?_
      refine hk _ _ _ _ _ h.2 E p l e R s m args below meth c H1 _ ls P C h1 h2 (hW.set hq z1 o1 ?_) (hS.put z1 o1 (Nat.le_add_right _ _)) hl hr
      show H1[E.2.2.1 + r]? = some (arrV (E.2.1 1) N (fun j => .int (upd f i.toNatClampNeg (x.toInt8.toInt32) j)))
      rw [e1, arrV_store]
      congr 2
      funext q
      by_cases hq : q = i.toNatClampNeg
      · subst hq; simp [updV, upd, narrow]
      · simp [updV, upd, hq]
    · exact h.elim
  · exact h.elim
def pz_aast (t0 ci n : Nat) : pz_I := fun Q k u L S M => match S with
  | .ref v :: .int i :: .ref r :: S => match pz_nth M r with
    | some (.inr (.inl (t, N, f))) => match t == t0 with
      | true => match pz_nth M v with
        | some (.inr (.inr (c, fs))) => match c == ci with
          | true => vp_in i N ∧ k n u L S (pz_set M r (.inr (.inl (t, N, va_up f i.toNatClampNeg (some v)))))
          | false => False
        | _ => False
      | false => False
    | _ => False
  | _ => False
theorem pz_s_aast {κ : pz_K} {pc t0 ci : Nat} {q0 : vw_C} (hd : decode (pz_cc κ) pc = .ok (.aastore, 1)) (ht0 : pz_aty t0 = some q0.1) (hc0 : pz_cls[ci]? = some q0) : pz_S κ pc (pz_aast t0 ci (pc + 1)) := by
  intro φ Q k u L S M h hk E p l e R s m args below meth c H locs ls P C h1 h2 hW hS hl hr
  have hx := C.1
  have hb := C.2.1
  have hown := C.2.2.2.1
  have hts := C.2.2.2.2.1
  have hK := C.2.2.2.2.2.2.2.2.2.2.1
  have hG := C.2.2.2.2.2.2.2.2.2.2.2.1
  have hB := C.2.2.2.2.2.2.2.2.2.2.2.2.1
  unfold pz_aast at h
  split at h
  · next v i r S' =>
    split at h
    · next t N f hq =>
      split at h
      · next ht =>
        have ht : t = t0 := by simpa using ht
        subst ht
        split at h
        · next c9 fs hv =>
          split at h
          · next hci =>
            have hci : c9 = ci := by simpa using hci
            subst hci
            have ha := hW.at hq
            have hav := hW.at hv
            have eS : List.map (pz_v E) (.ref v :: .int i :: .ref r :: S') = .ref (E.2.2.1 + v) :: .int i :: .ref (E.2.2.1 + r) :: List.map (pz_v E) S' := by rw [← ha.2, ← hav.2]; rfl
            rw [eS]
            have hin := h.1
            have hlt : i.toNatClampNeg < N := Nat.not_le.mp fun q => hin (Or.inr q)
            have hn0 : ¬ i < 0 := fun q => hin (Or.inl q)
            obtain ⟨r', hr', cellV, g1, g2, g3, -⟩ := hav.1
            have hcls := (hK.1 c9 q0 hc0).2
            obtain ⟨kA, comp, k1, k2, k3, -⟩ := (hK.2 t _ (pz_aty_ok ht0)).2
            have hcomp : comp = E.1.1 c9 := Option.some.inj (k3.symm.trans hcls.1)
            subst hcomp
            obtain ⟨kC, hkC, -⟩ := hcls.2
            have hc : H[E.2.2.1 + r]? = some (arrV (E.2.1 t) N (fun j => va_rf ((f j).map (pz_x E)))) := ha.1
            refine W.aast hx hb hc (fun q h => by cases h) (fun h => by cases h) k1 k2 rfl hkC ⟨hn0, by rw [arrV_size]; exact hlt⟩ g1 (fun q h => by rw [g3] at h; cases h) (by rw [g2]; exact hkC) (by rw [g2]; exact va_assign hcls) rfl rfl hd fun H1 e1 z1 o1 => ?_
            refine hk _ _ _ _ _ h.2 E p l e R s m args below meth c H1 _ ls P C h1 h2 (hW.set hq z1 o1 ?_) (hS.put z1 o1 (Nat.le_add_right _ _)) hl hr
            show H1[E.2.2.1 + r]? = some (arrV (E.2.1 t) N (fun j => va_rf ((va_up f i.toNatClampNeg (some v) j).map (pz_x E))))
            rw [e1, arrV_store]
            congr 2
            funext q
            by_cases hq : q = i.toNatClampNeg
            · subst hq; simp [updV, va_up, va_rf, hav.2]
            · simp [updV, va_up, hq]
          · exact h.elim
        · exact h.elim
      · exact h.elim
    · exact h.elim
  · exact h.elim
def pz_get (ci j n : Nat) : pz_I := fun Q k u L S M => match S with
  | .ref r :: S => match pz_nth M r with
    | some (.inr (.inr (c, fs))) => match c == ci with
      | true => match pz_nth fs j with
        | some v => k n u L (v :: S) M
        | none => False
      | false => False
    | _ => False
  | _ => False
theorem pz_s_get {κ : pz_K} {pc i ci j : Nat} {q0 : vw_C} (hd : decode (pz_cc κ) pc = .ok (.getfield i, 3)) (hc0 : pz_cls[ci]? = some q0) (hj : j < q0.2.2) (hw : Cond.fieldLink (pz_own κ) i (q0.2.1 j).1 (q0.2.1 j).2.1 (q0.2.1 j).2.2.1 ∈ pz_TB) : pz_S κ pc (pz_get ci j (pc + 3)) := by
  intro φ Q k u L S M h hk E p l e R s m args below meth c H locs ls P C h1 h2 hW hS hl hr
  have hx := C.1
  have hb := C.2.1
  have hown := C.2.2.2.1
  have hts := C.2.2.2.2.1
  have hK := C.2.2.2.2.2.2.2.2.2.2.1
  have hG := C.2.2.2.2.2.2.2.2.2.2.2.1
  have hB := C.2.2.2.2.2.2.2.2.2.2.2.2.1
  unfold pz_get at h
  split at h
  · next r S' =>
    split at h
    · next c9 fs hq =>
      split at h
      · next hci =>
        have hci : c9 = ci := by simpa using hci
        subst hci
        split at h
        · next v hv =>
          have ha := hW.at hq
          have hp := hW.one hq
          have eS : List.map (pz_v E) (.ref r :: S') = .ref (E.2.2.1 + r) :: List.map (pz_v E) S' := by rw [← ha.2]; rfl
          rw [eS]
          have hk' := (hk _ _ _ _ _ h E p l e R s m args below meth c H locs ls P C h1 h2 hW hS hl hr)
          exact va_get (D := E.1) (cl := pz_cls) (tys := pz_tys E) (C := q0.1) (T := q0.2.1) (N := q0.2.2) (fs := fs.map (pz_v E)) hx hb hts (pz_cok_all c9 q0 hc0).1 hown hK hp 0 rfl hc0 j hj (hts _ hw) (fun _ h9 => h9) (by rw [List.getElem?_map, ← pz_nth_eq, hv]; rfl) hd hk'
        · exact h.elim
      · exact h.elim
    · exact h.elim
  · exact h.elim
theorem pz_put_at {E : pz_V} {H1 : Heap} {r ci j : Nat} {fs : List Value} {v : Value} {q0 : vw_C} {cell : Cell} (hc0 : pz_cls[ci]? = some q0) (hj : j < q0.2.2) (hjf : j < fs.length) (q2 : cell.cls = E.1.1 ci) (q3 : cell.vm = .none) (q4 : ∀ k, k < q0.2.2 → cell.slots[E.1.2 ci k]? = some (vp_V (fs.map (pz_v E)) k)) (hap : ∀ x y, x < q0.2.2 → y < q0.2.2 → x ≠ y → E.1.2 ci x ≠ E.1.2 ci y) (e1 : H1[E.2.2.1 + r]? = some (cell.setSlot (E.1.2 ci j) (pz_v E v))) : va_at E.1 pz_cls (E.2.2.1 + r, pz_e E (.inr (.inr (ci, pz_set fs j v)))) H1 := by
  refine ⟨q0, hc0, t_OB.to (V := updV (vp_V (fs.map (pz_v E))) j (pz_v E v)) ⟨_, e1, q2, q3, t_set q4 hap hj (pz_v E v)⟩ (fun z _ => ?_)⟩
  rw [vp_updV_set (by rw [List.length_map]; exact hjf)]
  show vp_V _ z = vp_V ((pz_set fs j v).map (pz_v E)) z
  rw [pz_set_eq, List.map_set]
theorem pz_put_core {κ : pz_K} {pc i ci j : Nat} {q0 : vw_C} {ty : FieldType} (hd : decode (pz_cc κ) pc = .ok (.putfield i, 3)) (hc0 : pz_cls[ci]? = some q0) (hj : j < q0.2.2) (hw : Cond.fieldLink (pz_own κ) i (q0.2.1 j).1 (q0.2.1 j).2.1 (q0.2.1 j).2.2.1 ∈ pz_TB) (hfin : (q0.2.1 j).2.2.2 = false) (hdt : parseFieldDescriptor (q0.2.1 j).2.2.1 = some ty) {φ : pz_V → State → Prop} {Q : pz_Q} {k : pz_k} {u : Nat × Nat} {L : pz_L} {S : List Value} {M : pz_M} {v : Value} {r c9 : Nat} {fs : List Value} {v0 : Value} (hq : pz_nth M r = some (.inr (.inr (c9, fs)))) (hci : c9 = ci) (hv : pz_nth fs j = some v0) (hn : ∀ E : pz_V, narrow ty (pz_v E v) = pz_v E v) (hfit : ∀ E : pz_V, fits ty (pz_v E v) = true)
    (h : k (pc + 3) u L S (pz_set M r (.inr (.inr (c9, pz_set fs j v))))) (hk : ∀ (pc' : Nat) (u' : Nat × Nat) (L' : pz_L) (S' : List Value) (M' : pz_M), k pc' u' L' S' M' → pz_T φ κ Q pc' u' L' S' M') : pz_T φ κ Q pc u L (v :: .ref r :: S) M := by
  intro E p l e R s m args below meth c H locs ls P C h1 h2 hW hS hl hr
  subst hci
  have hx := C.1
  have hb := C.2.1
  have hown := C.2.2.2.1
  have hts := C.2.2.2.2.1
  have hK := C.2.2.2.2.2.2.2.2.2.2.1
  have ha := hW.at hq
  have hjf : j < fs.length := by rw [pz_nth_eq] at hv; exact (List.getElem?_eq_some_iff.mp hv).1
  obtain ⟨hin, ty0, hty, hnm⟩ := pz_cok_all c9 q0 hc0
  have hap := va_apart (own := pz_own κ) hts hin ty0 hty hnm hK hc0
  obtain ⟨r9, z1, cell, q1, q2, q3, q4⟩ := ha.1
  have hr9 : r9 = q0 := Option.some.inj (z1.symm.trans hc0)
  subst hr9
  obtain ⟨hSl, hfc, kC, hkC, hkind⟩ := hK.1 c9 _ hc0
  obtain ⟨cf, kf, fi, f, hi, hsl⟩ := hSl j hj
  have hlay := hts _ (hin _ (u_in_lay hj))
  unfold u_lay at hlay
  rw [if_neg (by rw [hfin]; decide)] at hlay
  have hst := (u_facts hfc hkC (u_lays hts hin hj) hi).1
  have eS : List.map (pz_v E) (v :: .ref r :: S) = pz_v E v :: .ref (E.2.2.1 + r) :: List.map (pz_v E) S := by rw [← ha.2]; rfl
  rw [eS]
  have h6 := u_store hfc hkC hkind hlay hi hdt (hn E) (hfit E)
  refine W.putK hx hb (f := f) ⟨hown, hts _ hw, ⟨_, _, _, hi⟩, hst⟩ (by rw [q2]; exact h6) q1 q3 (by rw [hsl]; exact k2_hasslot (q4 j hj)) rfl rfl hd fun H' e1 e2 e3 => ?_
  rw [hsl] at e1
  exact hk _ _ _ _ _ h E p l e R s m args below meth c H' _ ls P C h1 h2 (hW.set hq e2 e3 (pz_put_at hc0 hj hjf q2 q3 q4 hap e1)) (hS.put e2 e3 (Nat.le_add_right _ _)) hl hr
theorem pz_putF_core {κ : pz_K} {pc i ci j : Nat} {q0 : vw_C} {ty : FieldType} (hd : decode (pz_cc κ) pc = .ok (.putfield i, 3)) (hc0 : pz_cls[ci]? = some q0) (hj : j < q0.2.2) (hw : Cond.fieldLink (pz_own κ) i (q0.2.1 j).1 (q0.2.1 j).2.1 (q0.2.1 j).2.2.1 ∈ pz_TB) (hfin : (q0.2.1 j).2.2.2 = true) (hdt : parseFieldDescriptor (q0.2.1 j).2.2.1 = some ty) (hin2 : pz_nm κ = "<init>") (hdecl : (q0.2.1 j).1 = pz_own κ) {φ : pz_V → State → Prop} {Q : pz_Q} {k : pz_k} {u : Nat × Nat} {L : pz_L} {S : List Value} {M : pz_M} {v : Value} {r c9 : Nat} {fs : List Value} {v0 : Value} (hq : pz_nth M r = some (.inr (.inr (c9, fs)))) (hci : c9 = ci) (hv : pz_nth fs j = some v0) (hn : ∀ E : pz_V, narrow ty (pz_v E v) = pz_v E v) (hfit : ∀ E : pz_V, fits ty (pz_v E v) = true)
    (h : k (pc + 3) u L S (pz_set M r (.inr (.inr (c9, pz_set fs j v))))) (hk : ∀ (pc' : Nat) (u' : Nat × Nat) (L' : pz_L) (S' : List Value) (M' : pz_M), k pc' u' L' S' M' → pz_T φ κ Q pc' u' L' S' M') : pz_T φ κ Q pc u L (v :: .ref r :: S) M := by
  intro E p l e R s m args below meth c H locs ls P C h1 h2 hW hS hl hr
  subst hci
  have hx := C.1
  have hb := C.2.1
  have hown := C.2.2.2.1
  have hts := C.2.2.2.2.1
  have hK := C.2.2.2.2.2.2.2.2.2.2.1
  have ha := hW.at hq
  have hjf : j < fs.length := by rw [pz_nth_eq] at hv; exact (List.getElem?_eq_some_iff.mp hv).1
  obtain ⟨hin, ty0, hty, hnm⟩ := pz_cok_all c9 q0 hc0
  have hap := va_apart (own := pz_own κ) hts hin ty0 hty hnm hK hc0
  obtain ⟨r9, z1, cell, q1, q2, q3, q4⟩ := ha.1
  have hr9 : r9 = q0 := Option.some.inj (z1.symm.trans hc0)
  subst hr9
  obtain ⟨hSl, hfc, kC, hkC, hkind⟩ := hK.1 c9 _ hc0
  obtain ⟨cf, kf, fi, f, hi, hsl⟩ := hSl j hj
  have hlay := hts _ (hin _ (u_in_lay hj))
  unfold u_lay at hlay
  rw [if_pos hfin] at hlay
  have hst := (u_facts hfc hkC (u_lays hts hin hj) hi).1
  have eS : List.map (pz_v E) (v :: .ref r :: S) = pz_v E v :: .ref (E.2.2.1 + r) :: List.map (pz_v E) S := by rw [← ha.2]; rfl
  rw [eS]
  have hcf : m.cls = cf := by
    obtain ⟨_, _, c', _, _, _, -, -, hf', -, -, -, hown2, -⟩ := Cond.laysFinal_spec hlay
    have e1 : c' = cf := by have := hi.symm.trans hf'; simp at this; exact this.1.symm
    rw [hdecl] at hown2
    rw [← e1]; exact Option.some.inj (hown.symm.trans hown2)
  have h6 := u_fits hfc hkC hkind (Or.inr hlay) hi hdt (hn E) (hfit E)
  refine W.putFinK hx hb hown (hts _ hw) hi hst hcf (C.2.2.2.2.2.1.trans hin2) (by rw [q2]; exact h6) q1 q3 (by rw [hsl]; exact k2_hasslot (q4 j hj)) rfl rfl hd fun H' e1 e2 e3 => ?_
  rw [hsl] at e1
  exact hk _ _ _ _ _ h E p l e R s m args below meth c H' _ ls P C h1 h2 (hW.set hq e2 e3 (pz_put_at hc0 hj hjf q2 q3 q4 hap e1)) (hS.put e2 e3 (Nat.le_add_right _ _)) hl hr
def pz_puti (ci j n : Nat) : pz_I := fun Q k u L S M => match S with
  | .int x :: .ref r :: S => match pz_nth M r with
    | some (.inr (.inr (c, fs))) => match c == ci with
      | true => match pz_nth fs j with
        | some _ => k n u L S (pz_set M r (.inr (.inr (c, pz_set fs j (.int x)))))
        | none => False
      | false => False
    | _ => False
  | _ => False
theorem pz_s_puti {κ : pz_K} {pc i ci j : Nat} {q0 : vw_C}  (hd : decode (pz_cc κ) pc = .ok (.putfield i, 3)) (hc0 : pz_cls[ci]? = some q0) (hj : j < q0.2.2) (hw : Cond.fieldLink (pz_own κ) i (q0.2.1 j).1 (q0.2.1 j).2.1 (q0.2.1 j).2.2.1 ∈ pz_TB) (hfin : (q0.2.1 j).2.2.2 = false) (hdt : parseFieldDescriptor (q0.2.1 j).2.2.1 = some .int) : pz_S κ pc (pz_puti ci j (pc + 3)) := by
  intro φ Q k u L S M h hk
  unfold pz_puti at h
  split at h
  · split at h
    · next c9 fs hq =>
      split at h
      · next hci =>
        split at h
        · next v0 hv => exact pz_put_core (v := .int _) hd hc0 hj hw hfin hdt hq (by simpa using hci) hv (fun _ => rfl) (fun _ => rfl) h hk
        · exact h.elim
      · exact h.elim
    · exact h.elim
  · exact h.elim
def pz_putz (ci j n : Nat) : pz_I := fun Q k u L S M => match S with
  | .int x :: .ref r :: S => match pz_nth M r with
    | some (.inr (.inr (c, fs))) => match c == ci with
      | true => match pz_nth fs j with
        | some _ => (x = 0 ∨ x = 1) ∧ k n u L S (pz_set M r (.inr (.inr (c, pz_set fs j (.int x)))))
        | none => False
      | false => False
    | _ => False
  | _ => False
theorem pz_s_putz {κ : pz_K} {pc i ci j : Nat} {q0 : vw_C}  (hd : decode (pz_cc κ) pc = .ok (.putfield i, 3)) (hc0 : pz_cls[ci]? = some q0) (hj : j < q0.2.2) (hw : Cond.fieldLink (pz_own κ) i (q0.2.1 j).1 (q0.2.1 j).2.1 (q0.2.1 j).2.2.1 ∈ pz_TB) (hfin : (q0.2.1 j).2.2.2 = false) (hdt : parseFieldDescriptor (q0.2.1 j).2.2.1 = some .boolean) : pz_S κ pc (pz_putz ci j (pc + 3)) := by
  intro φ Q k u L S M h hk
  unfold pz_putz at h
  split at h
  · split at h
    · next c9 fs hq =>
      split at h
      · next hci =>
        split at h
        · next v0 hv => exact pz_put_core (v := .int _) hd hc0 hj hw hfin hdt hq (by simpa using hci) hv (fun _ => by rcases h.1 with rfl | rfl <;> rfl) (fun _ => by rcases h.1 with rfl | rfl <;> rfl) h.2 hk
        · exact h.elim
      · exact h.elim
    · exact h.elim
  · exact h.elim
def pz_puta (ci j n : Nat) : pz_I := fun Q k u L S M => match S with
  | .ref x :: .ref r :: S => match pz_nth M r with
    | some (.inr (.inr (c, fs))) => match c == ci with
      | true => match pz_nth fs j with
        | some _ => k n u L S (pz_set M r (.inr (.inr (c, pz_set fs j (.ref x)))))
        | none => False
      | false => False
    | _ => False
  | .null :: .ref r :: S => match pz_nth M r with
    | some (.inr (.inr (c, fs))) => match c == ci with
      | true => match pz_nth fs j with
        | some _ => k n u L S (pz_set M r (.inr (.inr (c, pz_set fs j .null))))
        | none => False
      | false => False
    | _ => False
  | _ => False
theorem pz_s_puta {κ : pz_K} {pc i ci j : Nat} {q0 : vw_C} {nm : String} (hd : decode (pz_cc κ) pc = .ok (.putfield i, 3)) (hc0 : pz_cls[ci]? = some q0) (hj : j < q0.2.2) (hw : Cond.fieldLink (pz_own κ) i (q0.2.1 j).1 (q0.2.1 j).2.1 (q0.2.1 j).2.2.1 ∈ pz_TB) (hfin : (q0.2.1 j).2.2.2 = false) (hdt : parseFieldDescriptor (q0.2.1 j).2.2.1 = some (.object nm)) : pz_S κ pc (pz_puta ci j (pc + 3)) := by
  intro φ Q k u L S M h hk
  unfold pz_puta at h
  split at h
  · split at h
    · next c9 fs hq =>
      split at h
      · next hci =>
        split at h
        · next v0 hv => exact pz_put_core (v := .ref _) hd hc0 hj hw hfin hdt hq (by simpa using hci) hv (fun _ => rfl) (fun _ => rfl) h hk
        · exact h.elim
      · exact h.elim
    · exact h.elim
  · split at h
    · next c9 fs hq =>
      split at h
      · next hci =>
        split at h
        · next v0 hv => exact pz_put_core (v := .null) hd hc0 hj hw hfin hdt hq (by simpa using hci) hv (fun _ => rfl) (fun _ => rfl) h hk
        · exact h.elim
      · exact h.elim
    · exact h.elim
  · exact h.elim
theorem pz_s_putaF {κ : pz_K} {pc i ci j : Nat} {q0 : vw_C} {nm : String} (hd : decode (pz_cc κ) pc = .ok (.putfield i, 3)) (hc0 : pz_cls[ci]? = some q0) (hj : j < q0.2.2) (hw : Cond.fieldLink (pz_own κ) i (q0.2.1 j).1 (q0.2.1 j).2.1 (q0.2.1 j).2.2.1 ∈ pz_TB) (hfin : (q0.2.1 j).2.2.2 = true) (hdt : parseFieldDescriptor (q0.2.1 j).2.2.1 = some (.object nm)) (hin2 : pz_nm κ = "<init>") (hdecl : (q0.2.1 j).1 = pz_own κ) : pz_S κ pc (pz_puta ci j (pc + 3)) := by
  intro φ Q k u L S M h hk
  unfold pz_puta at h
  split at h
  · split at h
    · next c9 fs hq =>
      split at h
      · next hci =>
        split at h
        · next v0 hv => exact pz_putF_core (v := .ref _) hd hc0 hj hw hfin hdt hin2 hdecl hq (by simpa using hci) hv (fun _ => rfl) (fun _ => rfl) h hk
        · exact h.elim
      · exact h.elim
    · exact h.elim
  · split at h
    · next c9 fs hq =>
      split at h
      · next hci =>
        split at h
        · next v0 hv => exact pz_putF_core (v := .null) hd hc0 hj hw hfin hdt hin2 hdecl hq (by simpa using hci) hv (fun _ => rfl) (fun _ => rfl) h hk
        · exact h.elim
      · exact h.elim
    · exact h.elim
  · exact h.elim
theorem pz_s_putaFA {κ : pz_K} {pc i ci j : Nat} {q0 : vw_C} {t9 : FieldType} (hd : decode (pz_cc κ) pc = .ok (.putfield i, 3)) (hc0 : pz_cls[ci]? = some q0) (hj : j < q0.2.2) (hw : Cond.fieldLink (pz_own κ) i (q0.2.1 j).1 (q0.2.1 j).2.1 (q0.2.1 j).2.2.1 ∈ pz_TB) (hfin : (q0.2.1 j).2.2.2 = true) (hdt : parseFieldDescriptor (q0.2.1 j).2.2.1 = some (.array t9)) (hin2 : pz_nm κ = "<init>") (hdecl : (q0.2.1 j).1 = pz_own κ) : pz_S κ pc (pz_puta ci j (pc + 3)) := by
  intro φ Q k u L S M h hk
  unfold pz_puta at h
  split at h
  · split at h
    · next c9 fs hq =>
      split at h
      · next hci =>
        split at h
        · next v0 hv => exact pz_putF_core (v := .ref _) hd hc0 hj hw hfin hdt hin2 hdecl hq (by simpa using hci) hv (fun _ => rfl) (fun _ => rfl) h hk
        · exact h.elim
      · exact h.elim
    · exact h.elim
  · split at h
    · next c9 fs hq =>
      split at h
      · next hci =>
        split at h
        · next v0 hv => exact pz_putF_core (v := .null) hd hc0 hj hw hfin hdt hin2 hdecl hq (by simpa using hci) hv (fun _ => rfl) (fun _ => rfl) h hk
        · exact h.elim
      · exact h.elim
    · exact h.elim
  · exact h.elim
end
section
def pz_cat : List Value → Nat
  | [] => 0
  | v :: S => v.category + pz_cat S
theorem pz_cat_eq : ∀ S : List Value, pz_cat S = (S.map fun v => v.category).sum
  | [] => rfl
  | v :: S => by rw [pz_cat, pz_cat_eq S, List.map_cons, List.sum_cons]
theorem pz_cat_le {E : pz_V} {S : List Value} (h : Nat.ble (pz_cat S) 8 = true) : ((S.map (pz_v E)).map fun v => v.category).sum ≤ 8 := by
  rw [pz_cats, ← pz_cat_eq]; exact Nat.le_of_ble_eq_true h
theorem pz_x_out {E : pz_V} {i : Nat} (h : ¬ i < 1000000) : pz_x E i = E.2.2.2 i := if_neg h
theorem pz_W.next {E : pz_V} {M : pz_M} {H : Heap} (h : pz_W E M H) (hM : M.length < 1000000) : pz_x E M.length = H.size := by unfold pz_x; rw [if_pos hM, h.1]
def pz_new (mc ms ci N : Nat) (fs : List Value) (n : Nat) : pz_I := fun Q k u L S M => u.1 + 1 ≤ mc ∧ u.2 + N ≤ ms ∧ M.length < 1000000 ∧ k n (u.1 + 1, u.2 + N) L (.ref M.length :: S) (M ++ [.inr (.inr (ci, fs))])
theorem pz_s_new {κ : pz_K} {pc i ci : Nat} {q0 : vw_C} {fs : List Value} (hd : decode (pz_cc κ) pc = .ok (.new i, 3)) (hc0 : pz_cls[ci]? = some q0) (ty : Nat → FieldType) (hty : ∀ k, k < q0.2.2 → parseFieldDescriptor (q0.2.1 k).2.2.1 = some (ty k)) (hfs : ∀ j, j < q0.2.2 → defaultValue (ty j) = vp_V fs j) (hfv : ∀ E : pz_V, fs.map (pz_v E) = fs) (hw1 : Cond.classLink (pz_own κ) i q0.1 ∈ pz_TB) (hw2 : Cond.instantiable q0.1 q0.2.2 ∈ pz_TB) (hw3 : Cond.initialized q0.1 ∈ pz_TB) : pz_S κ pc (pz_new (pz_mc κ) (pz_ms κ) ci q0.2.2 fs (pc + 3)) := by
  intro φ Q k u L S M h hk E p l e R s m args below meth c H locs ls P C h1 h2 hW hS hl hr
  have hx := C.1
  have hb := C.2.1
  have hml := C.2.2.1
  have hown := C.2.2.2.1
  have hts := C.2.2.2.2.1
  have hfr := C.2.2.2.2.2.2.1
  have hlo := C.2.2.2.2.2.2.2.1
  have hmc := C.2.2.2.2.2.2.2.2.1
  have hms := C.2.2.2.2.2.2.2.2.2.1
  have hK := C.2.2.2.2.2.2.2.2.2.2.1
  have hG := C.2.2.2.2.2.2.2.2.2.2.2.1
  have hB := C.2.2.2.2.2.2.2.2.2.2.2.2.1
  obtain ⟨a1, a2, a3, h⟩ := h
  have hKn := hK.1 ci _ hc0
  refine W.newcK hx hb hown (hts _ hw1) (hts _ hw2) (hts _ hw3) rfl hd (by rw [hmc]; exact a1) (by rw [hms]; exact a2) hKn.2.1 rfl fun H1 kC hkC e1 z1 o1 => ?_
  have hk' := hk _ _ _ _ _ h E p l e R s m args below meth c H1 locs ls P C a1 a2 (hW.push a3 z1 o1 ?_) (pz_push (M := M) hS z1 o1) hl hr
  · rw [List.map_cons, show pz_v E (.ref M.length) = .ref H.size by show Value.ref (pz_x E M.length) = _; rw [hW.next a3]] at hk'
    exact hk'
  · refine ⟨q0, hc0, ?_⟩
    show t_OB H.size (E.1.1 ci) q0.2.2 (E.1.2 ci) H1 (vp_V (fs.map (pz_v E)))
    rw [hfv]
    exact (u_born ty hts (pz_cok_all ci q0 hc0).1 hKn hkC e1 hty).to hfs
def pz_newa (mc ms t N : Nat) (n : Nat) : pz_I := fun Q k u L S M => match S with
  | .int z :: S => z = nI N ∧ u.1 + 1 ≤ mc ∧ u.2 + N ≤ ms ∧ M.length < 1000000 ∧ k n (u.1 + 1, u.2 + N) L (.ref M.length :: S) (M ++ [.inl (t, N, fun _ => 0)])
  | _ => False
theorem pz_s_newi {κ : pz_K} {pc N : Nat} (hd : decode (pz_cc κ) pc = .ok (.newarray .int, 2)) (hN : N < 65536) (hw : Cond.arrayClass .int ∈ pz_TB) : pz_S κ pc (pz_newa (pz_mc κ) (pz_ms κ) 0 N (pc + 2)) := by
  intro φ Q k u L S M h hk E p l e R s m args below meth c H locs ls P C h1 h2 hW hS hl hr
  have hx := C.1
  have hb := C.2.1
  have hml := C.2.2.1
  have hown := C.2.2.2.1
  have hts := C.2.2.2.2.1
  have hfr := C.2.2.2.2.2.2.1
  have hlo := C.2.2.2.2.2.2.2.1
  have hmc := C.2.2.2.2.2.2.2.2.1
  have hms := C.2.2.2.2.2.2.2.2.2.1
  have hK := C.2.2.2.2.2.2.2.2.2.2.1
  have hG := C.2.2.2.2.2.2.2.2.2.2.2.1
  have hB := C.2.2.2.2.2.2.2.2.2.2.2.2.1
  unfold pz_newa at h
  split at h
  · next z S' =>
    obtain ⟨a0, a1, a2, a3, h⟩ := h
    subst a0
    refine va_newaK (atype := .int) (N := N) hx hb (hts _ hw) rfl hd rfl (nI_pos (by omega)) (nI_clamp (by omega)) (by show N * componentBytes .int ≤ _; simp only [componentBytes]; omega) (by rw [hmc]; exact a1) (by rw [hms]; exact a2) rfl fun H1 cA e1 z1 o1 hAr hNm => ?_
    have hcA : cA = E.2.1 0 := Option.some.inj (hNm.symm.trans (hK.2 0 _ rfl).2)
    subst hcA
    have hk' := hk _ _ _ _ _ h E p l e R s m args below meth c H1 locs ls P C a1 a2 (hW.push a3 z1 o1 ?_) (pz_push (M := M) hS z1 o1) hl hr
    · rw [List.map_cons, show pz_v E (.ref M.length) = .ref H.size by show Value.ref (pz_x E M.length) = _; rw [hW.next a3]] at hk'
      exact hk'
    · exact e1
  · exact h.elim
theorem pz_s_newb {κ : pz_K} {pc N : Nat} (hd : decode (pz_cc κ) pc = .ok (.newarray .byte, 2)) (hN : N < 65536) (hw : Cond.arrayClass .byte ∈ pz_TB) : pz_S κ pc (pz_newa (pz_mc κ) (pz_ms κ) 1 N (pc + 2)) := by
  intro φ Q k u L S M h hk E p l e R s m args below meth c H locs ls P C h1 h2 hW hS hl hr
  have hx := C.1
  have hb := C.2.1
  have hml := C.2.2.1
  have hown := C.2.2.2.1
  have hts := C.2.2.2.2.1
  have hfr := C.2.2.2.2.2.2.1
  have hlo := C.2.2.2.2.2.2.2.1
  have hmc := C.2.2.2.2.2.2.2.2.1
  have hms := C.2.2.2.2.2.2.2.2.2.1
  have hK := C.2.2.2.2.2.2.2.2.2.2.1
  have hG := C.2.2.2.2.2.2.2.2.2.2.2.1
  have hB := C.2.2.2.2.2.2.2.2.2.2.2.2.1
  unfold pz_newa at h
  split at h
  · next z S' =>
    obtain ⟨a0, a1, a2, a3, h⟩ := h
    subst a0
    refine va_newaK (atype := .byte) (N := N) hx hb (hts _ hw) rfl hd rfl (nI_pos (by omega)) (nI_clamp (by omega)) (by show N * componentBytes .byte ≤ _; simp only [componentBytes]; omega) (by rw [hmc]; exact a1) (by rw [hms]; exact a2) rfl fun H1 cA e1 z1 o1 hAr hNm => ?_
    have hcA : cA = E.2.1 1 := Option.some.inj (hNm.symm.trans (hK.2 1 _ rfl).2)
    subst hcA
    have hk' := hk _ _ _ _ _ h E p l e R s m args below meth c H1 locs ls P C a1 a2 (hW.push a3 z1 o1 ?_) (pz_push (M := M) hS z1 o1) hl hr
    · rw [List.map_cons, show pz_v E (.ref M.length) = .ref H.size by show Value.ref (pz_x E M.length) = _; rw [hW.next a3]] at hk'
      exact hk'
    · exact e1
  · exact h.elim
def pz_newq (mc ms t N : Nat) (n : Nat) : pz_I := fun Q k u L S M => match S with
  | .int z :: S => z = nI N ∧ u.1 + 1 ≤ mc ∧ u.2 + N ≤ ms ∧ M.length < 1000000 ∧ k n (u.1 + 1, u.2 + N) L (.ref M.length :: S) (M ++ [.inr (.inl (t, N, fun _ => none))])
  | _ => False
theorem pz_s_newq {κ : pz_K} {pc i t N : Nat} {C0 : String} (hd : decode (pz_cc κ) pc = .ok (.anewarray i, 3)) (hN : N < 65536) (ht : pz_aty t = some C0) (hw : Cond.classLink (pz_own κ) i C0 ∈ pz_TB) : pz_S κ pc (pz_newq (pz_mc κ) (pz_ms κ) t N (pc + 3)) := by
  intro φ Q k u L S M h hk E p l e R s m args below meth c H locs ls P C h1 h2 hW hS hl hr
  have hx := C.1
  have hb := C.2.1
  have hml := C.2.2.1
  have hown := C.2.2.2.1
  have hts := C.2.2.2.2.1
  have hfr := C.2.2.2.2.2.2.1
  have hlo := C.2.2.2.2.2.2.2.1
  have hmc := C.2.2.2.2.2.2.2.2.1
  have hms := C.2.2.2.2.2.2.2.2.2.1
  have hK := C.2.2.2.2.2.2.2.2.2.2.1
  have hG := C.2.2.2.2.2.2.2.2.2.2.2.1
  have hB := C.2.2.2.2.2.2.2.2.2.2.2.2.1
  unfold pz_newq at h
  split at h
  · next z S' =>
    obtain ⟨a0, a1, a2, a3, h⟩ := h
    subst a0
    have hcl : (nI N).toNatClampNeg = N := nI_clamp (by omega)
    have hAO : va_AO C0 s := by
      match t, ht with
      | 0, ht => cases ht
      | 1, ht => cases ht
      | 2, ht => cases ht; exact hG.2.2.1.1
      | 3, ht => cases ht; exact hG.2.2.1.2.1
      | 4, ht => cases ht; exact hG.2.2.1.2.2
      | n + 5, ht => cases ht
    refine W.anew hx hb hown (hts _ hw) (va_AO.use hAO) rfl hd rfl (nI_pos (by omega)) (by rw [hcl]; omega) (by rw [hmc]; exact a1) (by rw [hms, hcl]; exact a2) fun cA kA comp f1 f2 f3 f4 => ?_
    rw [hcl]
    generalize hH1 : H.push ({ cls := cA, slots := Array.replicate N .null, vm := .none } : Cell) = H1
    have z1 : H1.size = H.size + 1 := by rw [← hH1, Array.size_push]
    have e1 : H1[H.size]? = some (arrV cA N (fun _ => .null)) := by rw [← hH1, Array.getElem?_push_size, ← arrV_new]
    have o1 : ∀ q : Nat, q < H.size → H1[q]? = H[q]? := fun q hq => by rw [← hH1, Array.getElem?_push, if_neg (Nat.ne_of_lt hq)]
    have hcA : cA = E.2.1 t := by
      obtain ⟨_, _, _, _, _, g4⟩ := (hK.2 t _ (pz_aty_ok ht)).2
      exact Option.some.inj (f1.symm.trans g4)
    subst hcA
    have hk' := hk _ _ _ _ _ h E p l e R s m args below meth c H1 locs ls P C a1 a2 (hW.push a3 z1 o1 ?_) (pz_push (M := M) hS z1 o1) hl hr
    · rw [List.map_cons, show pz_v E (.ref M.length) = .ref H.size by show Value.ref (pz_x E M.length) = _; rw [hW.next a3]] at hk'
      exact hk'
    · exact e1
  · exact h.elim
def pz_gst (t n : Nat) : pz_I := fun Q k u L S M => k n u L (.ref (1000000 + t) :: S) M
theorem pz_s_gst {κ : pz_K} {pc i t : Nat} (hd : decode (pz_cc κ) pc = .ok (.getstatic i, 3)) (ht : t < 4) (hw : Cond.fieldLink (pz_own κ) i (pz_stn t).1 (pz_stn t).2.1 "[I" ∈ pz_TB) : pz_S κ pc (pz_gst t (pc + 3)) := by
  intro φ Q k u L S M h hk E p l e R s m args below meth c H locs ls P C h1 h2 hW hS hl hr
  have hx := C.1
  have hb := C.2.1
  have hml := C.2.2.1
  have hown := C.2.2.2.1
  have hts := C.2.2.2.2.1
  have hfr := C.2.2.2.2.2.2.1
  have hlo := C.2.2.2.2.2.2.2.1
  have hmc := C.2.2.2.2.2.2.2.2.1
  have hms := C.2.2.2.2.2.2.2.2.2.1
  have hK := C.2.2.2.2.2.2.2.2.2.2.1
  have hG := C.2.2.2.2.2.2.2.2.2.2.2.1
  have hB := C.2.2.2.2.2.2.2.2.2.2.2.2.1
  have hk' := (hk _ _ _ _ _ h E p l e R s m args below meth c H locs ls P C h1 h2 hW hS hl hr)
  rw [List.map_cons, show pz_v E (.ref (1000000 + t)) = .ref (E.2.2.2 (1000000 + t)) by show Value.ref (pz_x E _) = _; rw [pz_x_out (by omega)]] at hk'
  exact va_gets hx hb (hG.1 t ht).1 hS hown (hts _ hw) (fun _ h9 => h9) hd hk'
theorem pz_s_gstN {κ : pz_K} {pc i t : Nat} {host : String} (hd : decode (pz_cc κ) pc = .ok (.getstatic i, 3)) (ht : t < 4) (hw : Cond.fieldLinkNest (pz_own κ) i (pz_stn t).1 (pz_stn t).2.1 "[I" host ∈ pz_nw) : pz_S κ pc (pz_gst t (pc + 3)) := by
  intro φ Q k u L S M h hk E p l e R s m args below meth c H locs ls P C h1 h2 hW hS hl hr
  have hx := C.1
  have hb := C.2.1
  have hml := C.2.2.1
  have hown := C.2.2.2.1
  have hts := C.2.2.2.2.1
  have hfr := C.2.2.2.2.2.2.1
  have hlo := C.2.2.2.2.2.2.2.1
  have hmc := C.2.2.2.2.2.2.2.2.1
  have hms := C.2.2.2.2.2.2.2.2.2.1
  have hK := C.2.2.2.2.2.2.2.2.2.2.1
  have hG := C.2.2.2.2.2.2.2.2.2.2.2.1
  have hB := C.2.2.2.2.2.2.2.2.2.2.2.2.1
  have hk' := (hk _ _ _ _ _ h E p l e R s m args below meth c H locs ls P C h1 h2 hW hS hl hr)
  rw [List.map_cons, show pz_v E (.ref (1000000 + t)) = .ref (E.2.2.2 (1000000 + t)) by show Value.ref (pz_x E _) = _; rw [pz_x_out (by omega)]] at hk'
  exact va_getsN hx hb (hG.1 t ht).1 hS hown (va_Nw.use rfl (hG.2.1 _ hw)) (fun _ h9 => h9) hd hk'
def pz_sald (t n : Nat) : pz_I := fun Q k u L S M => match S with
  | .int i :: .ref r :: S => match Nat.beq r (1000000 + t) with
    | true => vp_in i (pz_stn t).2.2.1 ∧ k n u L (.int ((pz_stn t).2.2.2.getD i.toNatClampNeg 0) :: S) M
    | false => False
  | _ => False
theorem pz_s_sald {κ : pz_K} {pc t : Nat} (hd : decode (pz_cc κ) pc = .ok (.iaload, 1)) (ht : t < 4) : pz_S κ pc (pz_sald t (pc + 1)) := by
  intro φ Q k u L S M h hk E p l e R s m args below meth c H locs ls P C h1 h2 hW hS hl hr
  have hx := C.1
  have hb := C.2.1
  have hml := C.2.2.1
  have hown := C.2.2.2.1
  have hts := C.2.2.2.2.1
  have hfr := C.2.2.2.2.2.2.1
  have hlo := C.2.2.2.2.2.2.2.1
  have hmc := C.2.2.2.2.2.2.2.2.1
  have hms := C.2.2.2.2.2.2.2.2.2.1
  have hK := C.2.2.2.2.2.2.2.2.2.2.1
  have hG := C.2.2.2.2.2.2.2.2.2.2.2.1
  have hB := C.2.2.2.2.2.2.2.2.2.2.2.2.1
  unfold pz_sald at h
  split at h
  · next i r S' =>
    split at h
    · next hq =>
      have hq : r = 1000000 + t := Nat.eq_of_beq_eq_true hq
      subst hq
      have hk' := (hk _ _ _ _ _ h.2 E p l e R s m args below meth c H locs ls P C h1 h2 hW hS hl hr)
      have eS : List.map (pz_v E) (.int i :: .ref (1000000 + t) :: S') = .int i :: .ref (E.2.2.2 (1000000 + t)) :: List.map (pz_v E) S' := by
        rw [List.map_cons, List.map_cons, show pz_v E (.ref (1000000 + t)) = .ref (E.2.2.2 (1000000 + t)) by show Value.ref (pz_x E _) = _; rw [pz_x_out (by omega)]]
        rfl
      rw [eS]
      exact va_ti hx hb (hG.1 t ht).2 hS h.1 rfl hd hk'
    · exact h.elim
  · exact h.elim
def pz_mb (f : Int32 → Int32 → Int32) (n : Nat) : pz_I := fun Q k u L S M => match S with
  | .int y :: .int x :: S => match Nat.ble (pz_cat S) 8 with
    | true => k n u L (.int (f x y) :: S) M
    | false => False
  | _ => False
theorem pz_s_mmin {κ : pz_K} {pc i : Nat} (hd : decode (pz_cc κ) pc = .ok (.invokestatic i, 3)) (hdp : 1 ≤ pz_d κ) (hw1 : Cond.methodLink (pz_own κ) i Lib.Math.min.name ∈ pz_TB) (hw2 : Cond.static Lib.Math.min.name ∈ pz_TB) (hw3 : Cond.initialized "java/lang/Math" ∈ pz_TB) (hw4 : Cond.code Lib.Math.min.name Lib.Math.min.code 2 (some .int) ∈ pz_TB) : pz_S κ pc (pz_mb (fun x y => if y < x then y else x) (pc + 3)) := by
  intro φ Q k u L S M h hk E p l e R s m args below meth c H locs ls P C h1 h2 hW hS hl hr
  have hx := C.1
  have hb := C.2.1
  have hml := C.2.2.1
  have hown := C.2.2.2.1
  have hts := C.2.2.2.2.1
  have hfr := C.2.2.2.2.2.2.1
  have hlo := C.2.2.2.2.2.2.2.1
  have hmc := C.2.2.2.2.2.2.2.2.1
  have hms := C.2.2.2.2.2.2.2.2.2.1
  have hK := C.2.2.2.2.2.2.2.2.2.2.1
  have hG := C.2.2.2.2.2.2.2.2.2.2.2.1
  have hB := C.2.2.2.2.2.2.2.2.2.2.2.2.1
  unfold pz_mb at h
  split at h
  · next y x S' =>
    split at h
    · next hc =>
      have hk' := (hk _ _ _ _ _ h E p l e R s m args below meth c H locs ls P C h1 h2 hW hS hl hr)
      have hc' := pz_cat_le (E := E) hc
      exact va_mmin hx hb (by rw [hml]; exact hl.2.1.symm) hown (hts _ hw1) (hts _ hw2) (hts _ hw3) (hts _ hw4) (by omega) (by omega) (by rw [hmc]; exact h1) (by rw [hms]; exact h2) hd hk'
    · exact h.elim
  · exact h.elim
theorem pz_s_mmax {κ : pz_K} {pc i : Nat} (hd : decode (pz_cc κ) pc = .ok (.invokestatic i, 3)) (hdp : 1 ≤ pz_d κ) (hw1 : Cond.methodLink (pz_own κ) i Lib.Math.max.name ∈ pz_TB) (hw2 : Cond.static Lib.Math.max.name ∈ pz_TB) (hw3 : Cond.initialized "java/lang/Math" ∈ pz_TB) (hw4 : Cond.code Lib.Math.max.name Lib.Math.max.code 2 (some .int) ∈ pz_TB) : pz_S κ pc (pz_mb (fun x y => if x < y then y else x) (pc + 3)) := by
  intro φ Q k u L S M h hk E p l e R s m args below meth c H locs ls P C h1 h2 hW hS hl hr
  have hx := C.1
  have hb := C.2.1
  have hml := C.2.2.1
  have hown := C.2.2.2.1
  have hts := C.2.2.2.2.1
  have hfr := C.2.2.2.2.2.2.1
  have hlo := C.2.2.2.2.2.2.2.1
  have hmc := C.2.2.2.2.2.2.2.2.1
  have hms := C.2.2.2.2.2.2.2.2.2.1
  have hK := C.2.2.2.2.2.2.2.2.2.2.1
  have hG := C.2.2.2.2.2.2.2.2.2.2.2.1
  have hB := C.2.2.2.2.2.2.2.2.2.2.2.2.1
  unfold pz_mb at h
  split at h
  · next y x S' =>
    split at h
    · next hc =>
      have hk' := (hk _ _ _ _ _ h E p l e R s m args below meth c H locs ls P C h1 h2 hW hS hl hr)
      have hc' := pz_cat_le (E := E) hc
      exact va_mmax hx hb (by rw [hml]; exact hl.2.1.symm) hown (hts _ hw1) (hts _ hw2) (hts _ hw3) (hts _ hw4) (by omega) (by omega) (by rw [hmc]; exact h1) (by rw [hms]; exact h2) hd hk'
    · exact h.elim
  · exact h.elim
def pz_mu (f : Int32 → Int32) (n : Nat) : pz_I := fun Q k u L S M => match S with
  | .int x :: S => match Nat.ble (pz_cat S) 8 with
    | true => k n u L (.int (f x) :: S) M
    | false => False
  | _ => False
theorem pz_s_mabs {κ : pz_K} {pc i : Nat} (hd : decode (pz_cc κ) pc = .ok (.invokestatic i, 3)) (hdp : 1 ≤ pz_d κ) (hw1 : Cond.methodLink (pz_own κ) i Lib.Math.abs.name ∈ pz_TB) (hw2 : Cond.static Lib.Math.abs.name ∈ pz_TB) (hw3 : Cond.initialized "java/lang/Math" ∈ pz_TB) (hw4 : Cond.code Lib.Math.abs.name Lib.Math.abs.code 1 (some .int) ∈ pz_TB) : pz_S κ pc (pz_mu (fun x => if 0 ≤ x then x else 0 - x) (pc + 3)) := by
  intro φ Q k u L S M h hk E p l e R s m args below meth c H locs ls P C h1 h2 hW hS hl hr
  have hx := C.1
  have hb := C.2.1
  have hml := C.2.2.1
  have hown := C.2.2.2.1
  have hts := C.2.2.2.2.1
  have hfr := C.2.2.2.2.2.2.1
  have hlo := C.2.2.2.2.2.2.2.1
  have hmc := C.2.2.2.2.2.2.2.2.1
  have hms := C.2.2.2.2.2.2.2.2.2.1
  have hK := C.2.2.2.2.2.2.2.2.2.2.1
  have hG := C.2.2.2.2.2.2.2.2.2.2.2.1
  have hB := C.2.2.2.2.2.2.2.2.2.2.2.2.1
  unfold pz_mu at h
  split at h
  · next x S' =>
    split at h
    · next hc =>
      have hk' := (hk _ _ _ _ _ h E p l e R s m args below meth c H locs ls P C h1 h2 hW hS hl hr)
      have hc' := pz_cat_le (E := E) hc
      exact va_mabs hx hb (by rw [hml]; exact hl.2.1.symm) hown (hts _ hw1) (hts _ hw2) (hts _ hw3) (hts _ hw4) (by omega) (by omega) (by rw [hmc]; exact h1) (by rw [hms]; exact h2) hd hk'
    · exact h.elim
  · exact h.elim
def pz_oinit (n : Nat) : pz_I := fun Q k u L S M => match S with
  | .ref _ :: S => match Nat.ble (pz_cat S) 8 with
    | true => k n u L S M
    | false => False
  | _ => False
theorem pz_s_oinit {κ : pz_K} {pc i : Nat} (hd : decode (pz_cc κ) pc = .ok (.invokespecial i, 3)) (hdp : 1 ≤ pz_d κ) (hw1 : Cond.methodLink (pz_own κ) i Lib.objectInit ∈ pz_TB) (hw2 : Cond.instanceMethod Lib.objectInit ∈ pz_TB) (hw3 : Cond.code Lib.objectInit ⟨#[0xb1]⟩ 1 none ∈ pz_TB) : pz_S κ pc (pz_oinit (pc + 3)) := by
  intro φ Q k u L S M h hk E p l e R s m args below meth c H locs ls P C h1 h2 hW hS hl hr
  have hx := C.1
  have hb := C.2.1
  have hml := C.2.2.1
  have hown := C.2.2.2.1
  have hts := C.2.2.2.2.1
  have hfr := C.2.2.2.2.2.2.1
  have hlo := C.2.2.2.2.2.2.2.1
  have hmc := C.2.2.2.2.2.2.2.2.1
  have hms := C.2.2.2.2.2.2.2.2.2.1
  have hK := C.2.2.2.2.2.2.2.2.2.2.1
  have hG := C.2.2.2.2.2.2.2.2.2.2.2.1
  have hB := C.2.2.2.2.2.2.2.2.2.2.2.2.1
  unfold pz_oinit at h
  split at h
  · next r S' =>
    split at h
    · next hc =>
      have hk' := (hk _ _ _ _ _ h E p l e R s m args below meth c H locs ls P C h1 h2 hW hS hl hr)
      have hc' := pz_cat_le (E := E) hc
      exact W.objInit hx hb hown (hts _ hw1) (hts _ hw2) (hts _ hw3) rfl (by rw [hml]; exact hl.2.1) rfl hd (by omega) (by show 2 * 0 + _ + 12 ≤ _; omega) hk'
    · exact h.elim
  · exact h.elim
def pz_acopy (n : Nat) : pz_I := fun Q k u L S M => match S with
  | .int z :: .int dp :: .ref a :: .int sp :: .ref a0 :: S => match pz_nth M a0 with
    | some (.inl (0, n0, f)) => match pz_nth M a with
      | some (.inl (0, n1, g)) => match Nat.ble (pz_cat S) 8 with
        | true => (¬ sp < 0 ∧ ¬ dp < 0 ∧ ¬ z < 0 ∧ sp.toNatClampNeg + z.toNatClampNeg ≤ n0 ∧ dp.toNatClampNeg + z.toNatClampNeg ≤ n1) ∧ k n u L S (pz_set M a (.inl (0, n1, va_cpy f g sp.toNatClampNeg dp.toNatClampNeg z.toNatClampNeg)))
        | false => False
      | _ => False
    | _ => False
  | _ => False
theorem pz_s_acopy {κ : pz_K} {pc i : Nat} (hd : decode (pz_cc κ) pc = .ok (.invokestatic i, 3)) (hdp : 1 ≤ pz_d κ) (hw1 : Cond.methodLink (pz_own κ) i arraycopyName ∈ pz_TB) (hw2 : Cond.native arraycopyName ∈ pz_TB) (hw3 : Cond.static arraycopyName ∈ pz_TB) (hw4 : Cond.initialized "java/lang/System" ∈ pz_TB) : pz_S κ pc (pz_acopy (pc + 3)) := by
  intro φ Q k u L S M h hk E p l e R s m args below meth c H locs ls P C h1 h2 hW hS hl hr
  have hx := C.1
  have hb := C.2.1
  have hml := C.2.2.1
  have hown := C.2.2.2.1
  have hts := C.2.2.2.2.1
  have hfr := C.2.2.2.2.2.2.1
  have hlo := C.2.2.2.2.2.2.2.1
  have hmc := C.2.2.2.2.2.2.2.2.1
  have hms := C.2.2.2.2.2.2.2.2.2.1
  have hK := C.2.2.2.2.2.2.2.2.2.2.1
  have hG := C.2.2.2.2.2.2.2.2.2.2.2.1
  have hB := C.2.2.2.2.2.2.2.2.2.2.2.2.1
  unfold pz_acopy at h
  split at h
  · next z dp a sp a0 S' =>
    split at h
    · next n0 f hq0 =>
      split at h
      · next n1 g hq1 =>
        split at h
        · next hc =>
          obtain ⟨⟨g1, g2, g3, g4, g5⟩, h⟩ := h
          have hc' := pz_cat_le (E := E) hc
          have nn : ∀ z : Int32, ¬ z < 0 → z.toInt = (z.toNatClampNeg : Int) := by
            intro z hz
            have hz0 : (0 : Int) ≤ z.toInt := by
              have := Int32.not_lt.mp hz
              simpa using Int32.le_iff_toInt_le.mp this
            show z.toInt = ((z.toInt.toNat : Nat) : Int)
            omega
          have ha0 := hW.at hq0
          have ha1 := hW.at hq1
          have hc0 : H[E.2.2.1 + a0]? = some (arrV (E.2.1 0) n0 (fun j => .int (f j))) := ha0.1
          have hc1 : H[E.2.2.1 + a]? = some (arrV (E.2.1 0) n1 (fun j => .int (g j))) := ha1.1
          have eS : List.map (pz_v E) (.int z :: .int dp :: .ref a :: .int sp :: .ref a0 :: S') = .int z :: .int dp :: .ref (E.2.2.1 + a) :: .int sp :: .ref (E.2.2.1 + a0) :: List.map (pz_v E) S' := by rw [← ha0.2, ← ha1.2]; rfl
          rw [eS]
          intro T hT X
          obtain ⟨-, k0, hk0, cm0, hkk0⟩ := (hK.2 0 _ rfl).1 n0 (fun j => .int (f j))
          obtain ⟨-, k1, hk1, cm1, hkk1⟩ := (hK.2 0 _ rfl).1 n1 (fun j => .int (g j))
          obtain ⟨vm', X', step⟩ := X.arraycopy hx hown (hts _ hw1) (hts _ hw2) (hts _ hw3) (hts _ hw4) (src := E.2.2.1 + a0) (dst := E.2.2.1 + a) (cs := arrV (E.2.1 0) n0 (fun j => .int (f j))) (cd := arrV (E.2.1 0) n1 (fun j => .int (g j))) (srcPos := sp) (destPos := dp) (n := z) (by rw [hT]; exact hc0) (by rw [hT]; exact hc1)
            (fun _ h => by cases h) (fun _ h => by cases h) (fun h => by cases h) (fun h => by cases h) hk0 hk1 hkk0 hkk1 (by simp [refKind]) g1 g2 g3
            (by rw [nn sp g1, nn z g3, arrV_size]; omega)
            (by rw [nn dp g2, nn z g3, arrV_size]; omega)
            (fun vm₁ _ i hi => by
              have e : (arrV (E.2.1 0) n0 (fun j => .int (f j))).slots.getD (sp.toNatClampNeg + i) .null = .int (f (sp.toNatClampNeg + i)) := by
                rw [Array.getD_eq_getD_getElem?, arrV_read _ _ (by omega)]
                rfl
              refine ⟨?_, ?_⟩
              · rw [e]; rfl
              · rw [e]; exact trivial)
            (g := F0 m pc ls (.int z :: .int dp :: .ref (E.2.2.1 + a) :: .int sp :: .ref (E.2.2.1 + a0) :: List.map (pz_v E) S')) rfl (by rw [hml]; exact hl.2.1) (rest := List.map (pz_v E) S') rfl (by rw [hb]; exact hd) (by omega) (by show 2 * 0 + _ + (5 + 2 + 11) ≤ _; omega)
          have e1 : copied (arrV (E.2.1 0) n0 (fun j => .int (f j))) (arrV (E.2.1 0) n1 (fun j => .int (g j))) sp dp z = arrV (E.2.1 0) n1 (fun j => .int (va_cpy f g sp.toNatClampNeg dp.toNatClampNeg z.toNatClampNeg j)) := va_copied (fun z => .int z) (E.2.1 0) (E.2.1 0) f g g4
          rw [e1] at X' step
          have hlt : E.2.2.1 + a < H.size := (Array.getElem?_eq_some_iff.mp hc1).1
          generalize hnew : arrV (E.2.1 0) n1 (fun j => Value.int (va_cpy f g sp.toNatClampNeg dp.toNatClampNeg z.toNatClampNeg j)) = nc at X' step
          have hheap : ((T.setVm vm').setCell (E.2.2.1 + a) nc).heap = H.setIfInBounds (E.2.2.1 + a) nc := by rw [← hT]; rfl
          have oq : ∀ q : Nat, q ≠ E.2.2.1 + a → (H.setIfInBounds (E.2.2.1 + a) nc)[q]? = H[q]? := fun q hq => by simp [Array.getElem?_setIfInBounds, Ne.symm hq]
          obtain ⟨t, a1, b1⟩ := hk _ _ _ _ _ h E p l e R s m args below meth c _ _ ls P C h1 h2 (hW.set (H' := H.setIfInBounds (E.2.2.1 + a) nc) hq1 (by simp) oq (by
              show (H.setIfInBounds (E.2.2.1 + a) nc)[E.2.2.1 + a]? = some (arrV (E.2.1 0) n1 (fun j => Value.int (va_cpy f g sp.toNatClampNeg dp.toNatClampNeg z.toNatClampNeg j)))
              rw [hnew]
              simp [Array.getElem?_setIfInBounds, hlt])) ⟨by simp; exact hS.1, fun q d1 d2 => by
              rw [oq q (fun e => d2 (by rw [e]; exact Nat.le_add_right _ _))]
              exact hS.2.1 q d1 d2, fun q hq => by
              rcases List.mem_append.mp hq with h | h
              · exact hS.2.2 q h
              · obtain ⟨z, -, hz⟩ := List.mem_map.mp h
                rw [← hz]
                exact Nat.le_add_right _ _⟩ hl hr _ hheap X'
          exact ⟨t, step t a1, b1⟩
        · exact h.elim
      · exact h.elim
    · exact h.elim
  · exact h.elim
end
section
/-! switches -/
def pz_swc (k : pz_k) (u : Nat × Nat) (L : pz_L) (S : List Value) (M : pz_M) (x : Int32) : List (Int32 × Nat) → Nat → Prop
  | [], d => k d u L S M
  | (a, t) :: r, d => (x = a → k t u L S M) ∧ (¬ x = a → pz_swc k u L S M x r d)
def pz_tgt (x : Int32) : List (Int32 × Nat) → Nat → Nat
  | [], d => d
  | (a, t) :: r, d => if x = a then t else pz_tgt x r d
theorem pz_swc_tgt {k : pz_k} {u : Nat × Nat} {L : pz_L} {S : List Value} {M : pz_M} {x : Int32} : ∀ {cs : List (Int32 × Nat)} {d : Nat}, pz_swc k u L S M x cs d → k (pz_tgt x cs d) u L S M
  | [], _, h => h
  | (a, t) :: r, d, h => by
    unfold pz_tgt
    by_cases hx : x = a
    · rw [if_pos hx]; exact h.1 hx
    · rw [if_neg hx]; exact pz_swc_tgt (h.2 hx)
def pz_sw (cs : List (Int32 × Nat)) (d : Nat) : pz_I := fun Q k u L S M => match S with
  | .int x :: S => pz_swc k u L S M x cs d
  | _ => False
theorem pz_off {x : Int32} {pc d : Nat} {dflt : Int} (hdf : (pc : Int) + dflt = (d : Int)) : ∀ cs : List (Int32 × Nat), (pc : Int) + Op.lookupswitch.offset (cs.map (fun q => (q.1.toInt, (q.2 : Int) - (pc : Int)))) dflt x.toInt = ((pz_tgt x cs d : Nat) : Int)
  | [] => by rw [List.map_nil, Op.lookupswitch.offset_nil]; exact hdf
  | (a, t) :: r => by
    rw [List.map_cons, Op.lookupswitch.offset_cons]
    unfold pz_tgt
    by_cases hx : x = a
    · rw [if_pos (by rw [hx]), if_pos hx]; omega
    · rw [if_neg (fun q => hx (Int32.toInt_inj.mp q.symm)), if_neg hx]; exact pz_off hdf r
theorem pz_s_lookup {κ : pz_K} {pc d len : Nat} {dflt : Int} {ps : Array (Int × Int)} {cs : List (Int32 × Nat)} (hd : decode (pz_cc κ) pc = .ok (.lookupswitch dflt ps, len)) (hp : (ps.toList.zip (ps.toList.drop 1)).all (fun (a, next) => a.1 < next.1) = true) (hps : ps.toList = cs.map (fun q => (q.1.toInt, (q.2 : Int) - (pc : Int)))) (hdf : (pc : Int) + dflt = (d : Int)) : pz_S κ pc (pz_sw cs d) := by
  intro φ Q k u L S M h hk E p l e R s m args below meth c H locs ls P C h1 h2 hW hS hl hr
  have hx := C.1
  have hb := C.2.1
  unfold pz_sw at h
  split at h
  · next x S' =>
    exact lv_lookup (x := x) hx hb hd hp rfl (by rw [hps]; exact pz_off hdf cs) (hk _ _ _ _ _ (pz_swc_tgt h) E p l e R s m args below meth c H locs ls P C h1 h2 hW hS hl hr)
  · exact h.elim
def pz_con : Int → List (Int32 × Nat) → Bool
  | _, [] => true
  | lo, (a, _) :: r => decide (a.toInt = lo) && pz_con (lo + 1) r
theorem pz_con_out {x : Int32} {d : Nat} : ∀ (cs : List (Int32 × Nat)) (lo : Int), pz_con lo cs = true → (x.toInt < lo ∨ lo + cs.length ≤ x.toInt) → pz_tgt x cs d = d
  | [], _, _, _ => rfl
  | (a, t) :: r, lo, h, hx => by
    simp only [pz_con, Bool.and_eq_true, decide_eq_true_eq] at h
    simp only [List.length_cons, Int.natCast_add, Int.natCast_one] at hx
    unfold pz_tgt
    rw [if_neg (fun q => by rw [q] at hx; omega)]
    exact pz_con_out r (lo + 1) h.2 (by omega)
theorem pz_con_in {x : Int32} {d : Nat} : ∀ (cs : List (Int32 × Nat)) (lo : Int), pz_con lo cs = true → ¬ x.toInt < lo → ¬ lo + cs.length ≤ x.toInt → ∃ a, cs[(x.toInt - lo).toNat]? = some (a, pz_tgt x cs d)
  | [], lo, _, h1, h2 => by simp only [List.length_nil] at h2; omega
  | (a, t) :: r, lo, h, h1, h2 => by
    simp only [pz_con, Bool.and_eq_true, decide_eq_true_eq] at h
    simp only [List.length_cons, Int.natCast_add, Int.natCast_one] at h2
    unfold pz_tgt
    by_cases hx : x = a
    · refine ⟨a, ?_⟩
      rw [if_pos hx, show (x.toInt - lo).toNat = 0 by rw [hx]; omega]
      rfl
    · have hne : x.toInt ≠ lo := fun q => hx (Int32.toInt_inj.mp (by rw [q, h.1]))
      obtain ⟨b, hb⟩ := pz_con_in (x := x) (d := d) r (lo + 1) h.2 (by omega) (by omega)
      refine ⟨b, ?_⟩
      rw [if_neg hx, show (x.toInt - lo).toNat = (x.toInt - (lo + 1)).toNat + 1 by omega, List.getElem?_cons_succ]
      exact hb
theorem pz_s_table {κ : pz_K} {pc d len : Nat} {dflt lo hi : Int} {offs : Array Int} {cs : List (Int32 × Nat)} (hd : decode (pz_cc κ) pc = .ok (.tableswitch dflt lo hi offs, len)) (hc : pz_con lo cs = true) (ho : offs.toList = cs.map (fun q => (q.2 : Int) - (pc : Int))) (hh : hi = lo + cs.length - 1) (hdf : (pc : Int) + dflt = (d : Int)) : pz_S κ pc (pz_sw cs d) := by
  intro φ Q k u L S M h hk E p l e R s m args below meth c H locs ls P C h1 h2 hW hS hl hr
  have hx := C.1
  have hb := C.2.1
  unfold pz_sw at h
  split at h
  · next x S' =>
    have hk' := hk _ _ _ _ _ (pz_swc_tgt h) E p l e R s m args below meth c H locs ls P C h1 h2 hW hS hl hr
    by_cases hin : x.toInt < lo ∨ hi < x.toInt
    · rw [pz_con_out cs lo hc (by omega)] at hk'
      exact lv_tableOut (x := x) hx hb hd hin hdf hk'
    · obtain ⟨a, ha⟩ := pz_con_in (x := x) (d := d) cs lo hc (by omega) (by omega)
      refine lv_tableIn (x := x) (off := ((pz_tgt x cs d : Nat) : Int) - (pc : Int)) hx hb hd (by omega) (by omega) ?_ (by omega) hk'
      rw [← Array.getElem?_toList, ho, List.getElem?_map, ha]
      rfl
  · exact h.elim
/-! calls -/
def pz_take : Nat → List Value → List Value → Option (List Value × List Value)
  | 0, acc, S => some (acc, S)
  | n + 1, acc, v :: S => pz_take n (v :: acc) S
  | _ + 1, _, [] => none
theorem pz_take_eq : ∀ (n : Nat) (acc S av S' : List Value), pz_take n acc S = some (av, S') → ∃ as : List Value, as.length = n ∧ av = as ++ acc ∧ S = as.reverse ++ S'
  | 0, acc, S, av, S', h => by cases h; exact ⟨[], rfl, rfl, rfl⟩
  | n + 1, acc, v :: S, av, S', h => by
    obtain ⟨as, a1, a2, a3⟩ := pz_take_eq n (v :: acc) S av S' h
    exact ⟨as ++ [v], by simp [a1], by simp [a2], by simp [a3]⟩
  | n + 1, acc, [], av, S', h => by cases h
theorem pz_take_0 {n : Nat} {S av S' : List Value} (h : pz_take n [] S = some (av, S')) : av.length = n ∧ S = av.reverse ++ S' := by
  obtain ⟨as, a1, a2, a3⟩ := pz_take_eq n [] S av S' h
  rw [List.append_nil] at a2
  subst a2
  exact ⟨a1, a3⟩
def pz_ps (v : Option Value) (S : List Value) : List Value := match v with
  | none => S
  | some x => x :: S
def pz_okS (own : String) (i : Nat) (y : MethodName) (cc : ByteArray) (nL : Nat) (rt : Option FieldType) (n : Nat) : Prop := (∀ w ∈ ([.methodLink own i y, .static y, .initialized y.cls, .code y cc nL rt] : List Cond), w ∈ pz_TB) ∧ (y.cls ≠ "java/lang/invoke/MethodHandle" ∧ y.cls ≠ "java/lang/invoke/VarHandle" ∧ (parseMethodDescriptor y.desc).map (fun d => d.parameters.length) = some n ∧ nL ≤ 21)
def pz_okV (own : String) (i : Nat) (y : MethodName) (cc : ByteArray) (nL : Nat) (rt : Option FieldType) (n : Nat) : Prop := (∀ w ∈ ([.methodLink own i y, .instanceMethod y, .selects y.cls y y, .initialized y.cls, .code y cc nL rt] : List Cond), w ∈ pz_TB) ∧ (y.cls ≠ "java/lang/invoke/MethodHandle" ∧ y.cls ≠ "java/lang/invoke/VarHandle" ∧ (parseMethodDescriptor y.desc).map (fun d => d.parameters.length) = some n ∧ nL ≤ 21)
def pz_okI (own : String) (i : Nat) (y : MethodName) (cc : ByteArray) (nL : Nat) (n : Nat) : Prop := (∀ w ∈ ([.methodLink own i y, .instanceMethod y, .initialized y.cls, .code y cc nL none] : List Cond), w ∈ pz_TB) ∧ (y.cls ≠ "java/lang/invoke/MethodHandle" ∧ y.cls ≠ "java/lang/invoke/VarHandle" ∧ (parseMethodDescriptor y.desc).map (fun d => d.parameters.length) = some n ∧ nL ≤ 21) ∧ y.name = "<init>"
/-- the same over a nest mate's private member -/
def pz_okSN (own : String) (i : Nat) (y : MethodName) (cc : ByteArray) (nL : Nat) (rt : Option FieldType) (n : Nat) (host : String) : Prop := (∀ w ∈ ([.static y, .initialized y.cls, .code y cc nL rt] : List Cond), w ∈ pz_TB) ∧ (y.cls ≠ "java/lang/invoke/MethodHandle" ∧ y.cls ≠ "java/lang/invoke/VarHandle" ∧ (parseMethodDescriptor y.desc).map (fun d => d.parameters.length) = some n ∧ nL ≤ 21) ∧ Cond.methodLinkNest own i y host ∈ lw_tbl
def pz_okIN (own : String) (i : Nat) (y : MethodName) (cc : ByteArray) (nL : Nat) (n : Nat) (host : String) : Prop := (∀ w ∈ ([.instanceMethod y, .initialized y.cls, .code y cc nL none] : List Cond), w ∈ pz_TB) ∧ (y.cls ≠ "java/lang/invoke/MethodHandle" ∧ y.cls ≠ "java/lang/invoke/VarHandle" ∧ (parseMethodDescriptor y.desc).map (fun d => d.parameters.length) = some n ∧ nL ≤ 21) ∧ y.name = "<init>" ∧ Cond.methodLinkNest own i y host ∈ lw_tbl
theorem pz_all {ws : List Cond} (h : ws.all (fun w => decide (w ∈ lw_tbl) && goodWord w) = true) : ∀ w ∈ ws, w ∈ pz_TB := fun w hw => pz_in (List.all_eq_true.mp h w hw)
theorem pz_after {φ : pz_V → State → Prop} {κ : pz_K} {Q : pz_Q} {k : pz_k} {u : Nat × Nat} {L : pz_L} {S' : List Value} {E : pz_V} {p : Program} {l : Launch} {e : Env} {R : Room} {s : State} {m : MethodId} {args : Array Value} {below : List Frame} {meth : Method} {c : Code} {H : Heap} {locs : List Loc} {ls : Array Slot} {P : State → Prop} {pc mc' ms' : Nat} {a : Array Value} {st0 : List Value}
    (C : pz_Cx φ κ E p R s m args meth c) (h1 : u.1 + mc' ≤ pz_mc κ) (h2 : u.2 + ms' ≤ pz_ms κ) (hS : va_S (pz_A E) s.heap H locs) (hl : pz_ls E L (pz_nL κ) ls)
    (hr : ∀ (pc' : Nat) (H' : Heap) (locs' : List Loc) (ls' : Array Slot) (M' : pz_M) (v : Option Value) (ins : Instr), decode (pz_cc κ) pc' = .ok (ins, 1) → pz_rv (pz_rt κ) ins v → Q v M' → pz_W E M' H' → va_S (pz_A E) s.heap H' locs' → W p l e R s m args below meth c H' locs' (pz_mc κ) (pz_ms κ) P (F0 m pc' ls' ((v.map (pz_v E)).toList)))
    (hrun : va_Run p l e R s m args below meth c H locs u.1 u.2 mc' ms' (F0 m pc ls st0) (S'.map (pz_v E)) (pz_Qc E (fun v M' => k (pc + 3) (u.1 + mc', u.2 + ms') L (pz_ps v S') M') a) (pz_A E))
    (hk : ∀ (pc' : Nat) (u' : Nat × Nat) (L' : pz_L) (S' : List Value) (M' : pz_M), k pc' u' L' S' M' → pz_T φ κ Q pc' u' L' S' M') : W p l e R s m args below meth c H locs u.1 u.2 P (F0 m pc ls st0) := by
  intro T hT X
  obtain ⟨v, st₀, t, T', Lc, h0, X', hL, e1, e2, ⟨v0, M', hv, hq, hW', hz, hkeep⟩, st⟩ := hrun T hT X
  have hB := C.2.2.2.2.2.2.2.2.2.2.2.2.1
  rw [h0] at hz hkeep
  obtain ⟨t2, a1, b1⟩ := hk _ _ _ _ _ hq E p l e R s m args below meth c T'.heap (locs ++ Lc) ls P C h1 h2 (by rw [e1]; exact hW') ⟨Nat.le_trans hS.1 (by rw [e1]; exact hz), fun q d1 d2 => by
      rw [e1, hkeep q (Nat.not_le.mp d2)]
      exact hS.2.1 q d1 d2, fun q hq => by
      rcases List.mem_append.mp hq with h | h
      · exact hS.2.2 q h
      · exact hL q h⟩ hl hr T' rfl X'
  refine ⟨t2, st t2 ?_, b1⟩
  have hv : v = v0.map (pz_v E) := Outcome.returned.inj hv
  subst hv
  cases v0 with
  | none => exact a1
  | some x => exact a1
theorem pz_pre {φ : pz_V → State → Prop} {κ : pz_K} {E : pz_V} {p : Program} {R : Room} {s : State} {m : MethodId} {args : Array Value} {meth : Method} {c : Code} {H : Heap} {locs : List Loc} {M : pz_M} {av : List Value} (C : pz_Cx φ κ E p R s m args meth c) (hW : pz_W E M H) (hS : va_S (pz_A E) s.heap H locs) : PreS s H (pz_Pc E av M) (av.map (pz_v E)) := by
  have hK := C.2.2.2.2.2.2.2.2.2.2.1
  have hG := C.2.2.2.2.2.2.2.2.2.2.2.1
  have hB := C.2.2.2.2.2.2.2.2.2.2.2.2.1
  refine ⟨pz_blind E av M, fun U hU hWm => ⟨rfl, by rw [hU]; exact hW, va_K.moved hWm.alike hK, ?_⟩⟩
  rw [hU]
  exact (hG.warm hWm).kept (fun q hq => hS.2.1 q (by omega) (Nat.not_le.mpr hq))
/-- a static method that makes nothing -/
def pz_cs (y : MethodName) (κ' : pz_K) (na n : Nat) : pz_I := fun Q k u L S M => match pz_take na [] S with
  | some (av, S') => match Nat.ble (pz_cat S') 8 with
    | true => pz_C y κ' av M (fun v M' => k n u L (pz_ps v S') M')
    | false => False
  | none => False
theorem pz_s_cs {κ κ' : pz_K} {pc i na : Nat} {y : MethodName} (hd : decode (pz_cc κ) pc = .ok (.invokestatic i, 3)) (hok : pz_okS (pz_own κ) i y (pz_cc κ') (pz_nL κ') (pz_rt κ') na) (hdp : pz_d κ' + 1 ≤ pz_d κ) (h0 : pz_mc κ' = 0 ∧ pz_ms κ' = 0) : pz_S κ pc (pz_cs y κ' na (pc + 3)) := by
  intro φ Q k u L S M h hk E p l e R s m args below meth c H locs ls P C h1 h2 hW hS hl hr
  unfold pz_cs at h
  split at h
  · next av S' ht =>
    split at h
    · next hc =>
      obtain ⟨t1, t2⟩ := pz_take_0 ht
      subst t2
      obtain ⟨hall, o1, o2, o3, o4⟩ := hok
      obtain ⟨m0, s0⟩ := h0
      have hfr := C.2.2.2.2.2.2.1
      have hlo := C.2.2.2.2.2.2.2.1
      have hmc := C.2.2.2.2.2.2.2.2.1
      have hms := C.2.2.2.2.2.2.2.2.2.1
      have hGI : GoodIn pz_TB (va_wsS (pz_own κ) i y (Cond.code y (pz_cc κ') (pz_nL κ') (pz_rt κ') :: pz_TB)) := by
        intro w hw
        rcases List.mem_append.mp hw with hw | hw
        · refine pz_good w (hall w ?_)
          simp only [List.mem_cons, List.not_mem_nil, or_false] at hw ⊢
          rcases hw with hw | hw | hw
          · exact Or.inl hw
          · exact Or.inr (Or.inl hw)
          · exact Or.inr (Or.inr (Or.inl hw))
        · exact pz_goodC (hall _ (by simp)) w hw
      have hM := h l E
      rw [m0, s0] at hM
      refine pz_after (mc' := 0) (ms' := 0) C h1 h2 hS hl hr (va_runS (As := av.map (pz_v E)) ⟨C.1, C.2.1, C.2.2.1, C.2.2.2.1, C.2.2.2.2.1⟩ hM (va_cwS na C.2.2.2.2.1 hGI rfl m0 s0 ⟨o1, o2, o3⟩ ⟨by show pz_d κ' + 1 ≤ _; omega, by show 8 + (pz_nL κ' + 11) + 40 * pz_d κ' ≤ _; omega⟩) (pz_pre C hW hS) rfl (by rw [List.length_map]; exact t1) hl.2.1 (by rw [List.map_append, List.map_reverse]) (by show 2 * 0 + _ ≤ 8; have := pz_cat_le (E := E) hc; omega) hd ⟨by rw [hmc]; exact h1, by rw [hms]; exact h2⟩) hk
    · exact h.elim
  · exact h.elim
theorem pz_s_csN {κ κ' : pz_K} {pc i na : Nat} {y : MethodName} {host : String} (hd : decode (pz_cc κ) pc = .ok (.invokestatic i, 3)) (hok : pz_okSN (pz_own κ) i y (pz_cc κ') (pz_nL κ') (pz_rt κ') na host) (hdp : pz_d κ' + 1 ≤ pz_d κ) (h0 : pz_mc κ' = 0 ∧ pz_ms κ' = 0) : pz_S κ pc (pz_cs y κ' na (pc + 3)) := by
  intro φ Q k u L S M h hk E p l e R s m args below meth c H locs ls P C h1 h2 hW hS hl hr
  unfold pz_cs at h
  split at h
  · next av S' ht =>
    split at h
    · next hc =>
      obtain ⟨t1, t2⟩ := pz_take_0 ht
      subst t2
      obtain ⟨hall, ⟨o1, o2, o3, o4⟩, o5⟩ := hok
      obtain ⟨m0, s0⟩ := h0
      have hfr := C.2.2.2.2.2.2.1
      have hlo := C.2.2.2.2.2.2.2.1
      have hmc := C.2.2.2.2.2.2.2.2.1
      have hms := C.2.2.2.2.2.2.2.2.2.1
      have hts := C.2.2.2.2.1
      have hM := h l E
      rw [m0, s0] at hM
      have hN := C.2.2.2.2.2.2.2.2.2.2.2.1.2.1 _ (List.mem_filter.mpr ⟨o5, rfl⟩)
      refine pz_after (mc' := 0) (ms' := 0) C h1 h2 hS hl hr (va_runSN (As := av.map (pz_v E)) ⟨C.1, C.2.1, C.2.2.1, C.2.2.2.1, C.2.2.2.2.1⟩ hM ⟨va_cnB na hts (pz_goodC (hall _ (by simp))) rfl m0 s0 hN (hts _ (hall _ (by simp))) ⟨o1, o2, o3⟩ ⟨by show pz_d κ' + 1 ≤ _; omega, by show 8 + (pz_nL κ' + 11) + 40 * pz_d κ' ≤ _; omega⟩, hts _ (hall _ (by simp)), trivial⟩ (pz_pre C hW hS) rfl (by rw [List.length_map]; exact t1) hl.2.1 (by rw [List.map_append, List.map_reverse]) (by show 2 * 0 + _ ≤ 8; have := pz_cat_le (E := E) hc; omega) hd ⟨by rw [hmc]; exact h1, by rw [hms]; exact h2⟩) hk
    · exact h.elim
  · exact h.elim
/-- an object's method; it may make cells -/
def pz_cv (mc ms : Nat) (y : MethodName) (κ' : pz_K) (ci na n : Nat) : pz_I := fun Q k u L S M => match pz_take na [] S with
  | some (.ref r :: av, S') => match pz_nth M r with
    | some (.inr (.inr (c, _))) => match c == ci with
      | true => match Nat.ble (pz_cat S') 8 with
        | true => (u.1 + pz_mc κ' ≤ mc ∧ u.2 + pz_ms κ' ≤ ms) ∧ pz_C y κ' (.ref r :: av) M (fun v M' => k n (u.1 + pz_mc κ', u.2 + pz_ms κ') L (pz_ps v S') M')
        | false => False
      | false => False
    | _ => False
  | _ => False
/-- an object's method that makes nothing -/
def pz_cv0 (y : MethodName) (κ' : pz_K) (ci na n : Nat) : pz_I := fun Q k u L S M => match pz_take na [] S with
  | some (.ref r :: av, S') => match pz_nth M r with
    | some (.inr (.inr (c, _))) => match c == ci with
      | true => match Nat.ble (pz_cat S') 8 with
        | true => pz_C y κ' (.ref r :: av) M (fun v M' => k n u L (pz_ps v S') M')
        | false => False
      | false => False
    | _ => False
  | _ => False
theorem pz_s_cv {κ κ' : pz_K} {pc i ci na : Nat} {y : MethodName} {q0 : vw_C} (hd : decode (pz_cc κ) pc = .ok (.invokevirtual i, 3)) (hok : pz_okV (pz_own κ) i y (pz_cc κ') (pz_nL κ') (pz_rt κ') na) (hc0 : pz_cls[ci]? = some q0) (hq0 : q0.1 = y.cls) (hdp : pz_d κ' + 1 ≤ pz_d κ) : pz_S κ pc (pz_cv (pz_mc κ) (pz_ms κ) y κ' ci (na + 1) (pc + 3)) := by
  intro φ Q k u L S M h hk E p l e R s m args below meth c H locs ls P C h1 h2 hW hS hl hr
  unfold pz_cv at h
  split at h
  · next r av S' ht =>
    split at h
    · next c9 fs hq =>
      split at h
      · next hci =>
        have hci : c9 = ci := by simpa using hci
        subst hci
        split at h
        · next hc =>
          obtain ⟨⟨b1, b2⟩, h⟩ := h
          obtain ⟨t1, t2⟩ := pz_take_0 ht
          subst t2
          obtain ⟨hall, o1, o2, o3, o4⟩ := hok
          have hfr := C.2.2.2.2.2.2.1
          have hlo := C.2.2.2.2.2.2.2.1
          have hmc := C.2.2.2.2.2.2.2.2.1
          have hms := C.2.2.2.2.2.2.2.2.2.1
          have hK := C.2.2.2.2.2.2.2.2.2.2.1
          have hGI : GoodIn pz_TB (wsV (pz_own κ) i y.cls y (Cond.code y (pz_cc κ') (pz_nL κ') (pz_rt κ') :: pz_TB)) := by
            intro w hw
            rcases List.mem_append.mp hw with hw | hw
            · refine pz_good w (hall w ?_)
              simp only [List.mem_cons, List.not_mem_nil, or_false] at hw ⊢
              rcases hw with hw | hw | hw | hw
              · exact Or.inl hw
              · exact Or.inr (Or.inl hw)
              · exact Or.inr (Or.inr (Or.inl hw))
              · exact Or.inr (Or.inr (Or.inr (Or.inl hw)))
            · exact pz_goodC (hall _ (by simp)) w hw
          have hM := h l E
          have ha := hW.at hq
          have hx1 : (Value.ref r :: av).map (pz_v E) = .ref (E.2.2.1 + r) :: av.map (pz_v E) := by rw [← ha.2]; rfl
          have hpre := pz_pre (av := .ref r :: av) C hW hS
          have hrec := va_recv hK (hW.one hq) hc0 (q0 := 0) (ci := c9) rfl
          rw [hx1] at hpre
          rw [hq0] at hrec
          refine pz_after C b1 b2 hS hl hr (va_runV (As := av.map (pz_v E)) (b := E.2.2.1 + r) ⟨C.1, C.2.1, C.2.2.1, C.2.2.2.1, C.2.2.2.2.1⟩ hM (cwV na C.2.2.2.2.1 hGI rfl rfl rfl ⟨rfl, o1, o2, o3⟩ ⟨by show pz_d κ' + 1 ≤ _; omega, by show 8 + (pz_nL κ' + 11) + 40 * pz_d κ' ≤ _; omega⟩) ⟨hpre.1, hrec, hpre.2⟩ rfl (by rw [List.length_map]; rw [List.length_cons] at t1; omega) hl.2.1 (by
            show List.map (pz_v E) ((Value.ref r :: av).reverse ++ S') = _
            rw [List.map_append, List.map_reverse, hx1, List.reverse_cons, List.append_assoc]; rfl) (by show 2 * 0 + _ ≤ 8; have := pz_cat_le (E := E) hc; omega) hd ⟨by rw [hmc]; exact b1, by rw [hms]; exact b2⟩) hk
        · exact h.elim
      · exact h.elim
    · exact h.elim
  · exact h.elim
theorem pz_s_cv0 {κ κ' : pz_K} {pc i ci na : Nat} {y : MethodName} {q0 : vw_C} (hd : decode (pz_cc κ) pc = .ok (.invokevirtual i, 3)) (hok : pz_okV (pz_own κ) i y (pz_cc κ') (pz_nL κ') (pz_rt κ') na) (hc0 : pz_cls[ci]? = some q0) (hq0 : q0.1 = y.cls) (hdp : pz_d κ' + 1 ≤ pz_d κ) (h0 : pz_mc κ' = 0 ∧ pz_ms κ' = 0) : pz_S κ pc (pz_cv0 y κ' ci (na + 1) (pc + 3)) := by
  intro φ Q k u L S M h hk E p l e R s m args below meth c H locs ls P C h1 h2 hW hS hl hr
  refine pz_s_cv hd hok hc0 hq0 hdp φ Q k u L S M ?_ hk E p l e R s m args below meth c H locs ls P C h1 h2 hW hS hl hr
  unfold pz_cv0 at h
  unfold pz_cv
  split at h
  · next r av S' ht =>
    split at h
    · next c9 fs hq =>
      split at h
      · next hci =>
        split at h
        · next hc =>
          rw [h0.1, h0.2]
          exact ⟨⟨h1, h2⟩, h⟩
        · exact h.elim
      · exact h.elim
    · exact h.elim
  · exact h.elim
/-- a constructor -/
def pz_ci (mc ms : Nat) (y : MethodName) (κ' : pz_K) (na n : Nat) : pz_I := fun Q k u L S M => match pz_take na [] S with
  | some (.ref r :: av, S') => match Nat.blt r 1000000 with
    | true => match Nat.ble (pz_cat S') 8 with
      | true => (u.1 + pz_mc κ' ≤ mc ∧ u.2 + pz_ms κ' ≤ ms) ∧ pz_C y κ' (.ref r :: av) M (fun v M' => k n (u.1 + pz_mc κ', u.2 + pz_ms κ') L (pz_ps v S') M')
      | false => False
    | false => False
  | _ => False
theorem pz_s_ci {κ κ' : pz_K} {pc i na : Nat} {y : MethodName} (hd : decode (pz_cc κ) pc = .ok (.invokespecial i, 3)) (hrt : pz_rt κ' = none) (hok : pz_okI (pz_own κ) i y (pz_cc κ') (pz_nL κ') na) (hdp : pz_d κ' + 1 ≤ pz_d κ) : pz_S κ pc (pz_ci (pz_mc κ) (pz_ms κ) y κ' (na + 1) (pc + 3)) := by
  intro φ Q k u L S M h hk E p l e R s m args below meth c H locs ls P C h1 h2 hW hS hl hr
  unfold pz_ci at h
  split at h
  · next r av S' ht =>
    split at h
    · next hblt =>
      split at h
      · next hc =>
        obtain ⟨⟨b1, b2⟩, h⟩ := h
        obtain ⟨t1, t2⟩ := pz_take_0 ht
        subst t2
        obtain ⟨hall, ⟨o1, o2, o3, o4⟩, o5⟩ := hok
        have hfr := C.2.2.2.2.2.2.1
        have hlo := C.2.2.2.2.2.2.2.1
        have hmc := C.2.2.2.2.2.2.2.2.1
        have hms := C.2.2.2.2.2.2.2.2.2.1
        have hts := C.2.2.2.2.1
        have hM := h l E
        rw [hrt] at hM
        have hpre := pz_pre (av := .ref r :: av) C hW hS
        refine pz_after C b1 b2 hS hl hr (va_runI (As := av.map (pz_v E)) (b := pz_x E r) ⟨C.1, C.2.1, C.2.2.1, C.2.2.2.1, C.2.2.2.2.1⟩ hM (cwI na hts (pz_goodC (hall _ (by simp))) rfl rfl rfl (hts _ (hall _ (by simp))) (hts _ (hall _ (by simp))) (hts _ (hall _ (by simp))) o5 ⟨o1, o2, o3⟩ ⟨by show pz_d κ' + 1 ≤ _; omega, by show 8 + (pz_nL κ' + 11) + 40 * pz_d κ' ≤ _; omega⟩) hpre rfl (by rw [List.length_map]; rw [List.length_cons] at t1; omega) hl.2.1 (by
          show List.map (pz_v E) ((Value.ref r :: av).reverse ++ S') = _
          rw [List.map_append, List.map_reverse, List.map_cons, List.reverse_cons, List.append_assoc]; rfl) (by show 2 * 0 + _ ≤ 8; have := pz_cat_le (E := E) hc; omega) hd ⟨by rw [hmc]; exact b1, by rw [hms]; exact b2⟩) hk
      · exact h.elim
    · exact h.elim
  · exact h.elim
theorem pz_s_ciN {κ κ' : pz_K} {pc i na : Nat} {y : MethodName} {host : String} (hd : decode (pz_cc κ) pc = .ok (.invokespecial i, 3)) (hrt : pz_rt κ' = none) (hok : pz_okIN (pz_own κ) i y (pz_cc κ') (pz_nL κ') na host) (hdp : pz_d κ' + 1 ≤ pz_d κ) : pz_S κ pc (pz_ci (pz_mc κ) (pz_ms κ) y κ' (na + 1) (pc + 3)) := by
  intro φ Q k u L S M h hk E p l e R s m args below meth c H locs ls P C h1 h2 hW hS hl hr
  unfold pz_ci at h
  split at h
  · next r av S' ht =>
    split at h
    · next hblt =>
      split at h
      · next hc =>
        obtain ⟨⟨b1, b2⟩, h⟩ := h
        obtain ⟨t1, t2⟩ := pz_take_0 ht
        subst t2
        obtain ⟨hall, ⟨o1, o2, o3, o4⟩, o5, o6⟩ := hok
        have hfr := C.2.2.2.2.2.2.1
        have hlo := C.2.2.2.2.2.2.2.1
        have hmc := C.2.2.2.2.2.2.2.2.1
        have hms := C.2.2.2.2.2.2.2.2.2.1
        have hts := C.2.2.2.2.1
        have hM := h l E
        rw [hrt] at hM
        have hpre := pz_pre (av := .ref r :: av) C hW hS
        have hN := C.2.2.2.2.2.2.2.2.2.2.2.1.2.1 _ (List.mem_filter.mpr ⟨o6, rfl⟩)
        refine pz_after C b1 b2 hS hl hr (va_runIN (As := av.map (pz_v E)) (b := pz_x E r) ⟨C.1, C.2.1, C.2.2.1, C.2.2.2.1, C.2.2.2.2.1⟩ hM ⟨va_cnB na hts (pz_goodC (hall _ (by simp))) rfl rfl rfl hN (hts _ (hall _ (by simp))) ⟨o1, o2, o3⟩ ⟨by show pz_d κ' + 1 ≤ _; omega, by show 8 + (pz_nL κ' + 11) + 40 * pz_d κ' ≤ _; omega⟩, o5, hts _ (hall _ (by simp))⟩ hpre rfl (by rw [List.length_map]; rw [List.length_cons] at t1; omega) hl.2.1 (by
          show List.map (pz_v E) ((Value.ref r :: av).reverse ++ S') = _
          rw [List.map_append, List.map_reverse, List.map_cons, List.reverse_cons, List.append_assoc]; rfl) (by show 2 * 0 + _ ≤ 8; have := pz_cat_le (E := E) hc; omega) hd ⟨by rw [hmc]; exact b1, by rw [hms]; exact b2⟩) hk
      · exact h.elim
    · exact h.elim
  · exact h.elim
/-! the chain -/
def pz_look : List (Nat × pz_I) → Nat → pz_I
  | [], _ => fun _ _ _ _ _ _ => False
  | (q, x) :: r, pc => match Nat.beq q pc with
    | true => x
    | false => pz_look r pc
def pz_mem (pc : Nat) : List Nat → Bool
  | [] => false
  | q :: r => match Nat.beq q pc with
    | true => true
    | false => pz_mem pc r
def pz_wp (I : List (Nat × pz_I)) (φ : pz_V → State → Prop) (κ : pz_K) (cs : List Nat) (Q : pz_Q) : Nat → Nat → Nat × Nat → pz_L → List Value → pz_M → Prop
  | 0, pc, u, L, S, M => pz_T φ κ Q pc u L S M
  | n + 1, pc, u, L, S, M => pz_look I pc Q (fun pc' u' L' S' M' => match pz_mem pc' cs with
    | true => pz_T φ κ Q pc' u' L' S' M'
    | false => pz_wp I φ κ cs Q n pc' u' L' S' M') u L S M
def pz_Sp (φ : pz_V → State → Prop) (κ : pz_K) (pc : Nat) (x : pz_I) : Prop := ∀ (Q : pz_Q) (k : pz_k) (u : Nat × Nat) (L : pz_L) (S : List Value) (M : pz_M), x Q k u L S M → (∀ (pc' : Nat) (u' : Nat × Nat) (L' : pz_L) (S' : List Value) (M' : pz_M), k pc' u' L' S' M' → pz_T φ κ Q pc' u' L' S' M') → pz_T φ κ Q pc u L S M
theorem pz_look_ok {φ : pz_V → State → Prop} {κ : pz_K} : ∀ {I : List (Nat × pz_I)}, (∀ q ∈ I, pz_Sp φ κ q.1 q.2) → ∀ pc, pz_Sp φ κ pc (pz_look I pc)
  | [], _, pc => fun _ _ _ _ _ _ h => h.elim
  | (q, x) :: r, h, pc => by
    unfold pz_look
    split
    · next hq =>
      have hq : q = pc := Nat.eq_of_beq_eq_true hq
      subst hq
      exact h (q, x) List.mem_cons_self
    · exact pz_look_ok (fun z hz => h z (List.mem_cons_of_mem _ hz)) pc
theorem pz_wp_okp {φ : pz_V → State → Prop} {I : List (Nat × pz_I)} {κ : pz_K} (hI : ∀ q ∈ I, pz_Sp φ κ q.1 q.2) (cs : List Nat) {Q : pz_Q} : ∀ (n : Nat) {pc : Nat} {u : Nat × Nat} {L : pz_L} {S : List Value} {M : pz_M}, pz_wp I φ κ cs Q n pc u L S M → pz_T φ κ Q pc u L S M
  | 0, _, _, _, _, _, h => h
  | n + 1, pc, u, L, S, M, h => by
    refine pz_look_ok hI pc Q _ u L S M h (fun pc' u' L' S' M' hk => ?_)
    split at hk
    · exact hk
    · exact pz_wp_okp hI cs n hk
theorem pz_wp_ok {φ : pz_V → State → Prop} {I : List (Nat × pz_I)} {κ : pz_K} (hI : ∀ q ∈ I, pz_S κ q.1 q.2) (cs : List Nat) {Q : pz_Q} (n : Nat) {pc : Nat} {u : Nat × Nat} {L : pz_L} {S : List Value} {M : pz_M} (h : pz_wp I φ κ cs Q n pc u L S M) : pz_T φ κ Q pc u L S M := pz_wp_okp (fun q hq => hI q hq φ) cs n h
/-- rows of numbers that agree as far as they go are one row -/
def pz_eq1 (a b : pz_E) : Prop := match a, b with
  | .inl x, .inl y => x.1 = y.1 ∧ x.2.1 = y.2.1 ∧ ∀ j, j < x.2.1 → x.2.2 j = y.2.2 j
  | a, b => a = b
def pz_eqv : pz_M → pz_M → Prop
  | [], [] => True
  | a :: l, b :: r => pz_eq1 a b ∧ pz_eqv l r
  | _, _ => False
theorem pz_eq1_at {E : pz_V} {a b : pz_E} {r : Nat} {H : Heap} (h : pz_eq1 a b) (hv : va_at E.1 pz_cls (r, pz_e E a) H) : va_at E.1 pz_cls (r, pz_e E b) H := by
  unfold pz_eq1 at h
  split at h
  · next x y =>
    obtain ⟨t, n, f⟩ := x
    obtain ⟨t', n', f'⟩ := y
    obtain ⟨e1, e2, e3⟩ := h
    dsimp only at e1 e2 e3
    subst e1; subst e2
    have hv : H[r]? = some (arrV (E.2.1 t) n (fun j => .int (f j))) := hv
    show H[r]? = some (arrV (E.2.1 t) n (fun j => .int (f' j)))
    rw [hv]
    have : (Array.ofFn (n := n) fun j => Value.int (f j.val)) = Array.ofFn (n := n) fun j => Value.int (f' j.val) := by
      congr 1
      funext j
      rw [e3 j.val j.isLt]
    unfold arrV
    rw [this]
  · rw [← h]; exact hv
theorem pz_eqv_len : ∀ {M M' : pz_M}, pz_eqv M M' → M.length = M'.length
  | [], [], _ => rfl
  | _ :: _, _ :: _, h => by simp [pz_eqv_len h.2]
theorem pz_eqv_get : ∀ {M M' : pz_M}, pz_eqv M M' → ∀ (i : Nat) (c : pz_E), M'[i]? = some c → ∃ c', M[i]? = some c' ∧ pz_eq1 c' c
  | [], [], _, i, c, hi => by simp at hi
  | a :: l, b :: r, h, 0, c, hi => by
    cases hi
    exact ⟨a, rfl, h.1⟩
  | a :: l, b :: r, h, i + 1, c, hi => by
    rw [List.getElem?_cons_succ] at hi
    obtain ⟨c', h1, h2⟩ := pz_eqv_get h.2 i c hi
    exact ⟨c', by rw [List.getElem?_cons_succ]; exact h1, h2⟩
theorem pz_W_eqv {E : pz_V} {M M' : pz_M} {H : Heap} (he : pz_eqv M M') (h : pz_W E M H) : pz_W E M' H := by
  have hl := pz_eqv_len he
  refine ⟨by rw [← hl]; exact h.1, by rw [← hl]; exact h.2.1, fun i c hi => ?_⟩
  obtain ⟨c', h1, h2⟩ := pz_eqv_get he i c hi
  exact pz_eq1_at h2 (h.2.2 i c' h1)
theorem pz_T_eqv {φ : pz_V → State → Prop} {κ : pz_K} {Q : pz_Q} {pc : Nat} {u : Nat × Nat} {L : pz_L} {S : List Value} {M M' : pz_M} (he : pz_eqv M M') (h : pz_T φ κ Q pc u L S M') : pz_T φ κ Q pc u L S M := by
  intro E p l e R s m args below meth c H locs ls P C h1 h2 hW hS hl hr
  exact h E p l e R s m args below meth c H locs ls P C h1 h2 (pz_W_eqv he hW) hS hl hr
end
section
/-! lengths of rows; texts outside; the script -/
def pz_alen (n : Nat) : pz_I := fun Q k u L S M => match S with
  | .ref r :: S => match pz_nth M r with
    | some (.inl (0, N, _)) => k n u L (.int (nI N) :: S) M
    | _ => False
  | _ => False
theorem pz_s_alen {κ : pz_K} {pc : Nat} (hd : decode (pz_cc κ) pc = .ok (.arraylength, 1)) : pz_S κ pc (pz_alen (pc + 1)) := by
  intro φ Q k u L S M h hk E p l e R s m args below meth c H locs ls P C h1 h2 hW hS hl hr
  have hK := C.2.2.2.2.2.2.2.2.2.2.1
  unfold pz_alen at h
  split at h
  · next r S' =>
    split at h
    · next N f hq =>
      have hk' := hk _ _ _ _ _ h E p l e R s m args below meth c H locs ls P C h1 h2 hW hS hl hr
      have ha := hW.at hq
      have hp := hW.one hq
      have eS : List.map (pz_v E) (.ref r :: S') = .ref (E.2.2.1 + r) :: List.map (pz_v E) S' := by rw [← ha.2]; rfl
      rw [eS]
      exact va_alen (D := E.1) (cl := pz_cls) (tys := pz_tys E) (x := (N, .inl f)) (ty := .int) (v := nI N) C.1 C.2.1 hK hp 0 0 rfl rfl rfl hd hk'
    · exact h.elim
  · exact h.elim
def pz_sn (r : Nat) : Option Nat := match Nat.ble 1000010 r && Nat.blt r 1000016 with
  | true => some (r - 1000010)
  | false => none
def pz_bn (r : Nat) : Option Nat := match Nat.ble 1000020 r && Nat.blt r 1000026 with
  | true => some (r - 1000020)
  | false => none
theorem pz_sn_ok {r i : Nat} (h : pz_sn r = some i) : i < 6 ∧ r = 1000010 + i := by
  unfold pz_sn at h
  split at h
  · next hb =>
    simp only [Bool.and_eq_true] at hb
    have h1 := Nat.le_of_ble_eq_true hb.1
    have h2 : r < 1000016 := Nat.le_of_ble_eq_true hb.2
    have h : r - 1000010 = i := Option.some.inj h
    omega
  · cases h
theorem pz_bn_ok {r i : Nat} (h : pz_bn r = some i) : i < 6 ∧ r = 1000020 + i := by
  unfold pz_bn at h
  split at h
  · next hb =>
    simp only [Bool.and_eq_true] at hb
    have h1 := Nat.le_of_ble_eq_true hb.1
    have h2 : r < 1000026 := Nat.le_of_ble_eq_true hb.2
    have h : r - 1000020 = i := Option.some.inj h
    omega
  · cases h
def pz_ldS (i n : Nat) : pz_I := fun Q k u L S M => k n u L (.ref (1000010 + i) :: S) M
theorem pz_vout {E : pz_V} {i : Nat} (h : 1000000 ≤ i) : pz_v E (.ref i) = .ref (E.2.2.2 i) := by
  show Value.ref (pz_x E i) = _
  rw [pz_x_out (by omega)]
theorem pz_s_ldS {κ : pz_K} {pc ix i : Nat} (hd : decode (pz_cc κ) pc = .ok (.ldc ix, 2)) (hi : i < 6) (hix : (pz_txt i).1 = ix) (ho : pz_own κ = RX3) : pz_S κ pc (pz_ldS i (pc + 2)) := by
  intro φ Q k u L S M h hk E p l e R s m args below meth c H locs ls P C h1 h2 hW hS hl hr
  have hk' := hk _ _ _ _ _ h E p l e R s m args below meth c H locs ls P C h1 h2 hW hS hl hr
  have hG := C.2.2.2.2.2.2.2.2.2.2.2.1
  have hown := C.2.2.2.1
  rw [ho] at hown
  rw [List.map_cons, pz_vout (by omega)] at hk'
  subst hix
  exact va_ldcS C.1 C.2.1 hown (hG.2.2.2.2.2.2 i hi) hd hk'
def pz_gsv (n : Nat) : pz_I := fun Q k u L S M => match S with
  | .ref r :: S => match pz_sn r with
    | some i => k n u L (.ref (1000020 + i) :: S) M
    | none => False
  | _ => False
theorem pz_s_gsv {κ : pz_K} {pc ix : Nat} (hd : decode (pz_cc κ) pc = .ok (.getfield ix, 3)) (hw : Cond.fieldLink (pz_own κ) ix "java/lang/String" "value" "[B" ∈ pz_TB) : pz_S κ pc (pz_gsv (pc + 3)) := by
  intro φ Q k u L S M h hk E p l e R s m args below meth c H locs ls P C h1 h2 hW hS hl hr
  have hG := C.2.2.2.2.2.2.2.2.2.2.2.1
  unfold pz_gsv at h
  split at h
  · next r S' =>
    split at h
    · next i hq =>
      obtain ⟨hi, rfl⟩ := pz_sn_ok hq
      have hk' := hk _ _ _ _ _ h E p l e R s m args below meth c H locs ls P C h1 h2 hW hS hl hr
      rw [List.map_cons, pz_vout (by omega)] at hk'
      rw [List.map_cons, pz_vout (by omega)]
      exact vk_getf C.1 C.2.1 (hG.2.2.2.2.2.1.1 i hi).2.2.1 hS C.2.2.2.1 (C.2.2.2.2.1 _ hw) (fun _ h => h) hd hk'
    · exact h.elim
  · exact h.elim
def pz_gsc (n : Nat) : pz_I := fun Q k u L S M => match S with
  | .ref r :: S => match pz_sn r with
    | some _ => k n u L (.int 0 :: S) M
    | none => False
  | _ => False
theorem pz_s_gsc {κ : pz_K} {pc ix : Nat} (hd : decode (pz_cc κ) pc = .ok (.getfield ix, 3)) (hw : Cond.fieldLink (pz_own κ) ix "java/lang/String" "coder" "B" ∈ pz_TB) : pz_S κ pc (pz_gsc (pc + 3)) := by
  intro φ Q k u L S M h hk E p l e R s m args below meth c H locs ls P C h1 h2 hW hS hl hr
  have hG := C.2.2.2.2.2.2.2.2.2.2.2.1
  unfold pz_gsc at h
  split at h
  · next r S' =>
    split at h
    · next i hq =>
      obtain ⟨hi, rfl⟩ := pz_sn_ok hq
      have hk' := hk _ _ _ _ _ h E p l e R s m args below meth c H locs ls P C h1 h2 hW hS hl hr
      rw [List.map_cons, pz_vout (by omega)]
      exact vk_getf C.1 C.2.1 (hG.2.2.2.2.2.1.1 i hi).2.1 hS C.2.2.2.1 (C.2.2.2.2.1 _ hw) (fun _ h => h) hd hk'
    · exact h.elim
  · exact h.elim
def pz_gcs (n : Nat) : pz_I := fun Q k u L S M => k n u L (.int 1 :: S) M
theorem pz_s_gcs {κ : pz_K} {pc ix : Nat} (hd : decode (pz_cc κ) pc = .ok (.getstatic ix, 3)) (hw : Cond.fieldLink (pz_own κ) ix "java/lang/String" "COMPACT_STRINGS" "Z" ∈ pz_TB) : pz_S κ pc (pz_gcs (pc + 3)) := by
  intro φ Q k u L S M h hk E p l e R s m args below meth c H locs ls P C h1 h2 hW hS hl hr
  have hG := C.2.2.2.2.2.2.2.2.2.2.2.1
  have hk' := hk _ _ _ _ _ h E p l e R s m args below meth c H locs ls P C h1 h2 hW hS hl hr
  exact va_gets C.1 C.2.1 hG.2.2.2.1 hS C.2.2.2.1 (C.2.2.2.2.1 _ hw) (fun _ h9 => h9) hd hk'
def pz_gsq (n : Nat) : pz_I := fun Q k u L S M => k n u L (.null :: S) M ∧ k n u L (.ref 1000040 :: S) M
theorem pz_s_gsq {κ : pz_K} {pc ix : Nat} (hd : decode (pz_cc κ) pc = .ok (.getstatic ix, 3)) (hw : Cond.fieldLink (pz_own κ) ix "jdk/internal/util/Preconditions" "SIOOBE_FORMATTER" "Ljava/util/function/BiFunction;" ∈ pz_TB) : pz_S κ pc (pz_gsq (pc + 3)) := by
  intro φ Q k u L S M h hk E p l e R s m args below meth c H locs ls P C h1 h2 hW hS hl hr
  have hG := C.2.2.2.2.2.2.2.2.2.2.2.1
  rcases hG.2.2.2.2.1 with hz | hz
  · have hk' := hk _ _ _ _ _ h.1 E p l e R s m args below meth c H locs ls P C h1 h2 hW hS hl hr
    exact va_gets C.1 C.2.1 hz hS C.2.2.2.1 (C.2.2.2.2.1 _ hw) (fun _ h9 => h9) hd hk'
  · have hk' := hk _ _ _ _ _ h.2 E p l e R s m args below meth c H locs ls P C h1 h2 hW hS hl hr
    rw [List.map_cons, pz_vout (by omega)] at hk'
    exact va_gets C.1 C.2.1 hz hS C.2.2.2.1 (C.2.2.2.2.1 _ hw) (fun _ h9 => h9) hd hk'
def pz_xlen (n : Nat) : pz_I := fun Q k u L S M => match S with
  | .ref r :: S => match pz_bn r with
    | some i => k n u L (.int (nI (pz_len.getD i 0)) :: S) M
    | none => False
  | _ => False
theorem pz_s_xlen {κ : pz_K} {pc : Nat} (hd : decode (pz_cc κ) pc = .ok (.arraylength, 1)) : pz_S κ pc (pz_xlen (pc + 1)) := by
  intro φ Q k u L S M h hk E p l e R s m args below meth c H locs ls P C h1 h2 hW hS hl hr
  have hG := C.2.2.2.2.2.2.2.2.2.2.2.1
  unfold pz_xlen at h
  split at h
  · next r S' =>
    split at h
    · next i hq =>
      obtain ⟨hi, rfl⟩ := pz_bn_ok hq
      have hk' := hk _ _ _ _ _ h E p l e R s m args below meth c H locs ls P C h1 h2 hW hS hl hr
      rw [List.map_cons, pz_vout (by omega)]
      exact va_tlen C.1 C.2.1 (hG.2.2.2.2.2.1.1 i hi).2.2.2 hS (v := nI (pz_len.getD i 0)) rfl hd hk'
    · exact h.elim
  · exact h.elim
def pz_xbald (n : Nat) : pz_I := fun Q k u L S M => match S with
  | .int j :: .ref r :: S => match pz_bn r with
    | some i => vp_in j (pz_len.getD i 0) ∧ k n u L (.int ((pz_byt.getD i []).getD j.toNatClampNeg 0) :: S) M
    | none => False
  | _ => False
theorem pz_s_xbald {κ : pz_K} {pc : Nat} (hd : decode (pz_cc κ) pc = .ok (.baload, 1)) : pz_S κ pc (pz_xbald (pc + 1)) := by
  intro φ Q k u L S M h hk E p l e R s m args below meth c H locs ls P C h1 h2 hW hS hl hr
  have hG := C.2.2.2.2.2.2.2.2.2.2.2.1
  unfold pz_xbald at h
  split at h
  · next j r S' =>
    split at h
    · next i hq =>
      obtain ⟨hi, rfl⟩ := pz_bn_ok hq
      have hk' := hk _ _ _ _ _ h.2 E p l e R s m args below meth c H locs ls P C h1 h2 hW hS hl hr
      rw [List.map_cons, List.map_cons, pz_vout (by omega)]
      exact va_tb C.1 C.2.1 (hG.2.2.2.2.2.1.1 i hi).2.2.2 hS h.1 rfl hd hk'
    · exact h.elim
  · exact h.elim
/-- a method of a text outside -/
def pz_cvS (y : MethodName) (κ' : pz_K) (na n : Nat) : pz_I := fun Q k u L S M => match pz_take na [] S with
  | some (.ref r :: av, S') => match pz_sn r with
    | some _ => match Nat.ble (pz_cat S') 8 with
      | true => pz_C y κ' (.ref r :: av) M (fun v M' => k n u L (pz_ps v S') M')
      | false => False
    | none => False
  | _ => False
theorem pz_s_cvS {κ κ' : pz_K} {pc i na : Nat} {y : MethodName} (hd : decode (pz_cc κ) pc = .ok (.invokevirtual i, 3)) (hok : pz_okV (pz_own κ) i y (pz_cc κ') (pz_nL κ') (pz_rt κ') na) (hq0 : y.cls = "java/lang/String") (hdp : pz_d κ' + 1 ≤ pz_d κ) (h0 : pz_mc κ' = 0 ∧ pz_ms κ' = 0) : pz_S κ pc (pz_cvS y κ' (na + 1) (pc + 3)) := by
  intro φ Q k u L S M h hk E p l e R s m args below meth c H locs ls P C h1 h2 hW hS hl hr
  unfold pz_cvS at h
  split at h
  · next r av S' ht =>
    split at h
    · next i9 hq =>
      obtain ⟨hi, rfl⟩ := pz_sn_ok hq
      split at h
      · next hc =>
        obtain ⟨t1, t2⟩ := pz_take_0 ht
        subst t2
        obtain ⟨hall, o1, o2, o3, o4⟩ := hok
        obtain ⟨m0, s0⟩ := h0
        have hfr := C.2.2.2.2.2.2.1
        have hlo := C.2.2.2.2.2.2.2.1
        have hmc := C.2.2.2.2.2.2.2.2.1
        have hms := C.2.2.2.2.2.2.2.2.2.1
        have hG := C.2.2.2.2.2.2.2.2.2.2.2.1
        have hGI : GoodIn pz_TB (wsV (pz_own κ) i y.cls y (Cond.code y (pz_cc κ') (pz_nL κ') (pz_rt κ') :: pz_TB)) := by
          intro w hw
          rcases List.mem_append.mp hw with hw | hw
          · refine pz_good w (hall w ?_)
            simp only [List.mem_cons, List.not_mem_nil, or_false] at hw ⊢
            rcases hw with hw | hw | hw | hw
            · exact Or.inl hw
            · exact Or.inr (Or.inl hw)
            · exact Or.inr (Or.inr (Or.inl hw))
            · exact Or.inr (Or.inr (Or.inr (Or.inl hw)))
          · exact pz_goodC (hall _ (by simp)) w hw
        have hM := h l E
        rw [m0, s0] at hM
        have hx1 : (Value.ref (1000010 + i9) :: av).map (pz_v E) = .ref (E.2.2.2 (1000010 + i9)) :: av.map (pz_v E) := by rw [List.map_cons, pz_vout (by omega)]
        have hpre := pz_pre (av := .ref (1000010 + i9) :: av) C hW hS
        have hrec := vk_recv hG.2.2.2.2.2.1 hi hS
        rw [hx1] at hpre
        rw [← hq0] at hrec
        refine pz_after (mc' := 0) (ms' := 0) C h1 h2 hS hl hr (va_runV (As := av.map (pz_v E)) (b := E.2.2.2 (1000010 + i9)) ⟨C.1, C.2.1, C.2.2.1, C.2.2.2.1, C.2.2.2.2.1⟩ hM (cwV na C.2.2.2.2.1 hGI rfl m0 s0 ⟨rfl, o1, o2, o3⟩ ⟨by show pz_d κ' + 1 ≤ _; omega, by show 8 + (pz_nL κ' + 11) + 40 * pz_d κ' ≤ _; omega⟩) ⟨hpre.1, hrec, hpre.2⟩ rfl (by rw [List.length_map]; rw [List.length_cons] at t1; omega) hl.2.1 (by
          show List.map (pz_v E) ((Value.ref (1000010 + i9) :: av).reverse ++ S') = _
          rw [List.map_append, List.map_reverse, hx1, List.reverse_cons, List.append_assoc]; rfl) (by show 2 * 0 + _ ≤ 8; have := pz_cat_le (E := E) hc; omega) hd ⟨by rw [hmc]; exact h1, by rw [hms]; exact h2⟩) hk
      · exact h.elim
    · exact h.elim
  · exact h.elim
/-- the script, in the law alone -/
def pz_scr (b N : Nat) (xs : Nat → Int32) : pz_V → State → Prop := fun E s => va_X b N xs s s.heap ∧ b < E.2.2.1 ∧ E.2.2.2 1000030 = b
def pz_sclen (N n : Nat) : pz_I := fun Q k u L S M => match S with
  | .ref r :: S => match Nat.beq r 1000030 with
    | true => k n u L (.int (nI N) :: S) M
    | false => False
  | _ => False
theorem pz_s_sclen {b N : Nat} {xs : Nat → Int32} {κ : pz_K} {pc : Nat} (hd : decode (pz_cc κ) pc = .ok (.arraylength, 1)) : pz_Sp (pz_scr b N xs) κ pc (pz_sclen N (pc + 1)) := by
  intro Q k u L S M h hk E p l e R s m args below meth c H locs ls P C h1 h2 hW hS hl hr
  have hB := C.2.2.2.2.2.2.2.2.2.2.2.2
  unfold pz_sclen at h
  split at h
  · next r S' =>
    split at h
    · next hq =>
      have hq : r = 1000030 := Nat.eq_of_beq_eq_true hq
      subst hq
      have hk' := hk _ _ _ _ _ h E p l e R s m args below meth c H locs ls P C h1 h2 hW hS hl hr
      obtain ⟨hX, hb, he⟩ := hB.2
      rw [List.map_cons, pz_vout (by omega), he]
      exact va_slen C.1 C.2.1 hX (by omega) (Nat.not_le.mpr hb) hS hd hk'
    · exact h.elim
  · exact h.elim
def pz_sld (N : Nat) (xs : Nat → Int32) (n : Nat) : pz_I := fun Q k u L S M => match S with
  | .int i :: .ref r :: S => match Nat.beq r 1000030 with
    | true => vp_in i N ∧ k n u L (.int (xs i.toNatClampNeg) :: S) M
    | false => False
  | _ => False
theorem pz_s_sld {b N : Nat} {xs : Nat → Int32} {κ : pz_K} {pc : Nat} (hd : decode (pz_cc κ) pc = .ok (.iaload, 1)) : pz_Sp (pz_scr b N xs) κ pc (pz_sld N xs (pc + 1)) := by
  intro Q k u L S M h hk E p l e R s m args below meth c H locs ls P C h1 h2 hW hS hl hr
  have hB := C.2.2.2.2.2.2.2.2.2.2.2.2
  unfold pz_sld at h
  split at h
  · next i r S' =>
    split at h
    · next hq =>
      have hq : r = 1000030 := Nat.eq_of_beq_eq_true hq
      subst hq
      have hk' := hk _ _ _ _ _ h.2 E p l e R s m args below meth c H locs ls P C h1 h2 hW hS hl hr
      obtain ⟨hX, hb, he⟩ := hB.2
      rw [List.map_cons, List.map_cons, pz_vout (by omega), he]
      exact va_sld C.1 C.2.1 hX (by omega) (Nat.not_le.mpr hb) hS h.1 hd hk'
    · exact h.elim
  · exact h.elim
end
section
def pz_Is (κ : pz_K) : List (Nat × pz_I) → Prop
  | [] => True
  | q :: r => pz_S κ q.1 q.2 ∧ pz_Is κ r
theorem pz_Is_ok {κ : pz_K} : ∀ {I : List (Nat × pz_I)}, pz_Is κ I → ∀ q ∈ I, pz_S κ q.1 q.2
  | [], _, q, hq => absurd hq List.not_mem_nil
  | z :: r, h, q, hq => by
    rcases List.mem_cons.mp hq with rfl | hq
    · exact h.1
    · exact pz_Is_ok h.2 q hq
theorem pz_Is_app {κ : pz_K} : ∀ {I J : List (Nat × pz_I)}, pz_Is κ I → pz_Is κ J → pz_Is κ (I ++ J)
  | [], _, _, h => h
  | _ :: _, _, h, h' => ⟨h.1, pz_Is_app h.2 h'⟩
def nf_0 : List Value := [.null, .null]
def nf_1 : List Value := [.null, .int 0, .null, .int 0, .int 0, .int 0, .int 0, .int 0]
def nf_2 : List Value := [.null, .int 0, .int 0]
def nf_3 : List Value := [.int 0, .int 0, .int 0, .int 0, .null]
def nf_4 : List Value := [.null, .int 0, .int 0, .int 0]
def nf_5 : List Value := [.null, .null, .null, .null, .null, .null, .null, .int 0, .int 0, .int 0, .int 0, .int 0, .int 0, .null]
def nf_6 : List Value := [.null, .null]
def nf_7 : List Value := [.null, .null, .null, .null, .null, .null, .null, .null, .null, .null, .int 0, .int 0]
def nf_8 : List Value := [.null, .null, .null, .int 0, .null, .null, .null, .null, .null, .null, .null, .null, .null, .null, .null, .null, .int 0, .int 0, .int 0, .int 0, .int 0, .int 0, .int 0, .int 0, .int 0, .int 0, .int 0, .null, .null, .null, .null, .int 0, .null]
theorem pz_at (i : Nat) {w : Cond} (h : lw_tbl[i]? = some w) (hg : goodWord w = true) : w ∈ pz_TB := List.mem_filter.mpr ⟨List.mem_of_getElem? h, hg⟩
theorem pz_f3 {a b c : Cond} (h1 : a ∈ pz_TB) (h2 : b ∈ pz_TB) (h3 : c ∈ pz_TB) : ∀ w ∈ ([a, b, c] : List Cond), w ∈ pz_TB := List.forall_mem_cons.mpr ⟨h1, List.forall_mem_cons.mpr ⟨h2, List.forall_mem_cons.mpr ⟨h3, fun _ h => absurd h List.not_mem_nil⟩⟩⟩
theorem pz_f4 {a b c d : Cond} (h1 : a ∈ pz_TB) (h2 : b ∈ pz_TB) (h3 : c ∈ pz_TB) (h4 : d ∈ pz_TB) : ∀ w ∈ ([a, b, c, d] : List Cond), w ∈ pz_TB := List.forall_mem_cons.mpr ⟨h1, pz_f3 h2 h3 h4⟩
theorem pz_f5 {a b c d e : Cond} (h1 : a ∈ pz_TB) (h2 : b ∈ pz_TB) (h3 : c ∈ pz_TB) (h4 : d ∈ pz_TB) (h5 : e ∈ pz_TB) : ∀ w ∈ ([a, b, c, d, e] : List Cond), w ∈ pz_TB := List.forall_mem_cons.mpr ⟨h1, pz_f4 h2 h3 h4 h5⟩
theorem wm_X9_1 : Cond.methodLink RX9 1 Lib.objectInit ∈ pz_TB := pz_at 86 (by decide +kernel) rfl
theorem woi1 : Cond.instanceMethod Lib.objectInit ∈ pz_TB := pz_at 87 (by decide +kernel) rfl
theorem woi2 : Cond.code Lib.objectInit ⟨#[0xb1]⟩ 1 none ∈ pz_TB := pz_at 88 (by decide +kernel) rfl
theorem wk_X9_7 : Cond.classLink RX9 7 RX1 ∈ pz_TB := pz_at 89 (by decide +kernel) rfl
theorem wi_RX1 : Cond.instantiable RX1 2 ∈ pz_TB := pz_at 90 (by decide +kernel) rfl
theorem wn_RX1 : Cond.initialized RX1 ∈ pz_TB := pz_at 64 (by decide +kernel) rfl
theorem w93 : Cond.code yX1_init cX1_init 1 none ∈ pz_TB := pz_at 93 (by decide +kernel) rfl
theorem w64 : Cond.initialized RX1 ∈ pz_TB := pz_at 64 (by decide +kernel) rfl
theorem w92 : Cond.instanceMethod yX1_init ∈ pz_TB := pz_at 92 (by decide +kernel) rfl
theorem wf_X9_10 : Cond.fieldLink RX9 10 "LittlePot" "laws" "LLittlePot$Laws;" ∈ pz_TB := pz_at 285 (by decide +kernel) rfl
theorem wk_X9_16 : Cond.classLink RX9 16 RX7 ∈ pz_TB := pz_at 105 (by decide +kernel) rfl
theorem wi_RX7 : Cond.instantiable RX7 14 ∈ pz_TB := pz_at 106 (by decide +kernel) rfl
theorem wn_RX7 : Cond.initialized RX7 ∈ pz_TB := pz_at 65 (by decide +kernel) rfl
theorem w109 : Cond.code yX7_init cX7_init 2 none ∈ pz_TB := pz_at 109 (by decide +kernel) rfl
theorem w65 : Cond.initialized RX7 ∈ pz_TB := pz_at 65 (by decide +kernel) rfl
theorem w107 : Cond.methodLink RX9 18 yX7_init ∈ pz_TB := pz_at 107 (by decide +kernel) rfl
theorem w108 : Cond.instanceMethod yX7_init ∈ pz_TB := pz_at 108 (by decide +kernel) rfl
theorem wf_X9_21 : Cond.fieldLink RX9 21 "LittlePot" "now" "LLittlePot$Town;" ∈ pz_TB := pz_at 286 (by decide +kernel) rfl
theorem wf_X9_25 : Cond.fieldLink RX9 25 "LittlePot" "image" "LLittlePot$Town;" ∈ pz_TB := pz_at 287 (by decide +kernel) rfl
theorem wf_X9_28 : Cond.fieldLink RX9 28 "LittlePot" "thought" "LLittlePot$Town;" ∈ pz_TB := pz_at 288 (by decide +kernel) rfl
theorem wf_X9_31 : Cond.fieldLink RX9 31 "LittlePot" "trunk" "LLittlePot$Town;" ∈ pz_TB := pz_at 289 (by decide +kernel) rfl
theorem wk_X9_34 : Cond.classLink RX9 34 RX3 ∈ pz_TB := pz_at 167 (by decide +kernel) rfl
theorem wi_RX3 : Cond.instantiable RX3 8 ∈ pz_TB := pz_at 168 (by decide +kernel) rfl
theorem wn_RX3 : Cond.initialized RX3 ∈ pz_TB := pz_at 66 (by decide +kernel) rfl
theorem w171 : Cond.code yX3_init cX3_init 1 none ∈ pz_TB := pz_at 171 (by decide +kernel) rfl
theorem w66 : Cond.initialized RX3 ∈ pz_TB := pz_at 66 (by decide +kernel) rfl
theorem w170 : Cond.instanceMethod yX3_init ∈ pz_TB := pz_at 170 (by decide +kernel) rfl
theorem wf_X9_37 : Cond.fieldLink RX9 37 "LittlePot" "reader" "LLittlePot$Reader;" ∈ pz_TB := pz_at 290 (by decide +kernel) rfl
theorem wk_X9_41 : Cond.classLink RX9 41 RX8 ∈ pz_TB := pz_at 227 (by decide +kernel) rfl
theorem wi_RX8 : Cond.instantiable RX8 2 ∈ pz_TB := pz_at 228 (by decide +kernel) rfl
theorem wn_RX8 : Cond.initialized RX8 ∈ pz_TB := pz_at 68 (by decide +kernel) rfl
theorem w231 : Cond.code yX8_init cX8_init 1 none ∈ pz_TB := pz_at 231 (by decide +kernel) rfl
theorem w68 : Cond.initialized RX8 ∈ pz_TB := pz_at 68 (by decide +kernel) rfl
theorem w230 : Cond.instanceMethod yX8_init ∈ pz_TB := pz_at 230 (by decide +kernel) rfl
theorem wf_X9_44 : Cond.fieldLink RX9 44 "LittlePot" "ways" "LLittlePot$Ways;" ∈ pz_TB := pz_at 291 (by decide +kernel) rfl
theorem wk_X9_48 : Cond.classLink RX9 48 RX4 ∈ pz_TB := pz_at 240 (by decide +kernel) rfl
theorem wf_X9_50 : Cond.fieldLink RX9 50 "LittlePot" "sheets" "[LLittlePot$Sheet;" ∈ pz_TB := pz_at 292 (by decide +kernel) rfl
theorem wk_X9_54 : Cond.classLink RX9 54 RX5 ∈ pz_TB := pz_at 242 (by decide +kernel) rfl
theorem wf_X9_56 : Cond.fieldLink RX9 56 "LittlePot" "slots" "[LLittlePot$Slot;" ∈ pz_TB := pz_at 293 (by decide +kernel) rfl
theorem wa_int : Cond.arrayClass .int ∈ pz_TB := pz_at 104 (by decide +kernel) rfl
theorem wf_X9_60 : Cond.fieldLink RX9 60 "LittlePot" "waiting" "[I" ∈ pz_TB := pz_at 294 (by decide +kernel) rfl
theorem wi_RX4 : Cond.instantiable RX4 3 ∈ pz_TB := pz_at 244 (by decide +kernel) rfl
theorem wn_RX4 : Cond.initialized RX4 ∈ pz_TB := pz_at 69 (by decide +kernel) rfl
theorem w247 : Cond.code yX4_init cX4_init 1 none ∈ pz_TB := pz_at 247 (by decide +kernel) rfl
theorem w69 : Cond.initialized RX4 ∈ pz_TB := pz_at 69 (by decide +kernel) rfl
theorem w246 : Cond.instanceMethod yX4_init ∈ pz_TB := pz_at 246 (by decide +kernel) rfl
theorem wi_RX5 : Cond.instantiable RX5 5 ∈ pz_TB := pz_at 261 (by decide +kernel) rfl
theorem wn_RX5 : Cond.initialized RX5 ∈ pz_TB := pz_at 70 (by decide +kernel) rfl
theorem w264 : Cond.code yX5_init cX5_init 1 none ∈ pz_TB := pz_at 264 (by decide +kernel) rfl
theorem w70 : Cond.initialized RX5 ∈ pz_TB := pz_at 70 (by decide +kernel) rfl
theorem w263 : Cond.instanceMethod yX5_init ∈ pz_TB := pz_at 263 (by decide +kernel) rfl
theorem w328 : Cond.code yX0_isKind cX0_isKind 1 (some .boolean) ∈ pz_TB := pz_at 328 (by decide +kernel) rfl
theorem w72 : Cond.initialized RX0 ∈ pz_TB := pz_at 72 (by decide +kernel) rfl
theorem w326 : Cond.methodLink RX9 66 yX0_isKind ∈ pz_TB := pz_at 326 (by decide +kernel) rfl
theorem w327 : Cond.static yX0_isKind ∈ pz_TB := pz_at 327 (by decide +kernel) rfl
theorem w334 : Cond.code yX9_isCell cX9_isCell 1 (some .boolean) ∈ pz_TB := pz_at 334 (by decide +kernel) rfl
theorem w63 : Cond.initialized RX9 ∈ pz_TB := pz_at 63 (by decide +kernel) rfl
theorem w332 : Cond.methodLink RX9 72 yX9_isCell ∈ pz_TB := pz_at 332 (by decide +kernel) rfl
theorem w333 : Cond.static yX9_isCell ∈ pz_TB := pz_at 333 (by decide +kernel) rfl
theorem wc_X9_75 : Cond.constant RX9 75 (-1000000001) ∈ pz_TB := pz_at 336 (by decide +kernel) rfl
theorem wf_X9_76 : Cond.fieldLink RX9 76 "LittlePot$Town" "eaters" "I" ∈ pz_TB := pz_at 125 (by decide +kernel) rfl
theorem w340 : Cond.code yX7_comes cX7_comes 4 (some .int) ∈ pz_TB := pz_at 340 (by decide +kernel) rfl
theorem w337 : Cond.methodLink RX9 80 yX7_comes ∈ pz_TB := pz_at 337 (by decide +kernel) rfl
theorem w338 : Cond.instanceMethod yX7_comes ∈ pz_TB := pz_at 338 (by decide +kernel) rfl
theorem w339 : Cond.selects RX7 yX7_comes yX7_comes ∈ pz_TB := pz_at 339 (by decide +kernel) rfl
theorem wc_X9_84 : Cond.constant RX9 84 (-1000000003) ∈ pz_TB := pz_at 341 (by decide +kernel) rfl
theorem w349 : Cond.code yX7_hasEater cX7_hasEater 2 (some .boolean) ∈ pz_TB := pz_at 349 (by decide +kernel) rfl
theorem w346 : Cond.methodLink RX9 85 yX7_hasEater ∈ pz_TB := pz_at 346 (by decide +kernel) rfl
theorem w347 : Cond.instanceMethod yX7_hasEater ∈ pz_TB := pz_at 347 (by decide +kernel) rfl
theorem w348 : Cond.selects RX7 yX7_hasEater yX7_hasEater ∈ pz_TB := pz_at 348 (by decide +kernel) rfl
theorem wf_X9_88 : Cond.fieldLink RX9 88 "LittlePot$Town" "kinds" "[I" ∈ pz_TB := pz_at 118 (by decide +kernel) rfl
theorem wf_X9_91 : Cond.fieldLink RX9 91 "LittlePot$Town" "places" "[I" ∈ pz_TB := pz_at 120 (by decide +kernel) rfl
theorem wf_X9_94 : Cond.fieldLink RX9 94 "LittlePot$Town" "ates" "[I" ∈ pz_TB := pz_at 122 (by decide +kernel) rfl
theorem wf_X9_97 : Cond.fieldLink RX9 97 "LittlePot$Town" "parts" "[I" ∈ pz_TB := pz_at 116 (by decide +kernel) rfl
theorem w353 : Cond.code yX0_eats cX0_eats 2 (some .int) ∈ pz_TB := pz_at 353 (by decide +kernel) rfl
theorem w351 : Cond.methodLink RX9 100 yX0_eats ∈ pz_TB := pz_at 351 (by decide +kernel) rfl
theorem w352 : Cond.static yX0_eats ∈ pz_TB := pz_at 352 (by decide +kernel) rfl
theorem w356 : Cond.code yX0_wades cX0_wades 1 (some .int) ∈ pz_TB := pz_at 356 (by decide +kernel) rfl
theorem w354 : Cond.methodLink RX9 103 yX0_wades ∈ pz_TB := pz_at 354 (by decide +kernel) rfl
theorem w355 : Cond.static yX0_wades ∈ pz_TB := pz_at 355 (by decide +kernel) rfl
theorem w359 : Cond.code yX0_worth cX0_worth 2 (some .int) ∈ pz_TB := pz_at 359 (by decide +kernel) rfl
theorem w357 : Cond.methodLink RX9 107 yX0_worth ∈ pz_TB := pz_at 357 (by decide +kernel) rfl
theorem w358 : Cond.static yX0_worth ∈ pz_TB := pz_at 358 (by decide +kernel) rfl
theorem w331 : Cond.code yX9_within cX9_within 3 (some .boolean) ∈ pz_TB := pz_at 331 (by decide +kernel) rfl
theorem w335 : Cond.methodLink RX9 110 yX9_within ∈ pz_TB := pz_at 335 (by decide +kernel) rfl
theorem w330 : Cond.static yX9_within ∈ pz_TB := pz_at 330 (by decide +kernel) rfl
theorem w373 : Cond.code yX7_level cX7_level 2 (some .int) ∈ pz_TB := pz_at 373 (by decide +kernel) rfl
theorem w370 : Cond.methodLink RX9 114 yX7_level ∈ pz_TB := pz_at 370 (by decide +kernel) rfl
theorem w371 : Cond.instanceMethod yX7_level ∈ pz_TB := pz_at 371 (by decide +kernel) rfl
theorem w372 : Cond.selects RX7 yX7_level yX7_level ∈ pz_TB := pz_at 372 (by decide +kernel) rfl
theorem w377 : Cond.code yX7_laid cX7_laid 2 (some (.array .int)) ∈ pz_TB := pz_at 377 (by decide +kernel) rfl
theorem w374 : Cond.methodLink RX9 117 yX7_laid ∈ pz_TB := pz_at 374 (by decide +kernel) rfl
theorem w375 : Cond.instanceMethod yX7_laid ∈ pz_TB := pz_at 375 (by decide +kernel) rfl
theorem w376 : Cond.selects RX7 yX7_laid yX7_laid ∈ pz_TB := pz_at 376 (by decide +kernel) rfl
theorem wf_X9_121 : Cond.fieldLink RX9 121 "LittlePot" "LAID_MOST" "[I" ∈ pz_TB := pz_at 382 (by decide +kernel) rfl
theorem w390 : Cond.code yX0_isUnder cX0_isUnder 4 (some .boolean) ∈ pz_TB := pz_at 390 (by decide +kernel) rfl
theorem w388 : Cond.methodLink RX9 124 yX0_isUnder ∈ pz_TB := pz_at 388 (by decide +kernel) rfl
theorem w389 : Cond.static yX0_isUnder ∈ pz_TB := pz_at 389 (by decide +kernel) rfl
theorem wc_X9_128 : Cond.constant RX9 128 (-1000000012) ∈ pz_TB := pz_at 394 (by decide +kernel) rfl
theorem wf_X9_129 : Cond.fieldLink RX9 129 "LittlePot$Town" "pot" "I" ∈ pz_TB := pz_at 128 (by decide +kernel) rfl
theorem wf_X9_132 : Cond.fieldLink RX9 132 "LittlePot$Town" "cooks" "Z" ∈ pz_TB := pz_at 130 (by decide +kernel) rfl
theorem wc_X9_136 : Cond.constant RX9 136 (-1000000002) ∈ pz_TB := pz_at 411 (by decide +kernel) rfl
theorem wf_X9_137 : Cond.fieldLink RX9 137 "LittlePot$Town" "rules" "[I" ∈ pz_TB := pz_at 124 (by decide +kernel) rfl
theorem wf_X9_140 : Cond.fieldLink RX9 140 "LittlePot" "RULE_MOST" "[I" ∈ pz_TB := pz_at 412 (by decide +kernel) rfl
theorem wm_X9_143 : Cond.methodLink RX9 143 Lib.Math.min.name ∈ pz_TB := pz_at 414 (by decide +kernel) rfl
theorem wms_min : Cond.static Lib.Math.min.name ∈ pz_TB := pz_at 415 (by decide +kernel) rfl
theorem wmi : Cond.initialized "java/lang/Math" ∈ pz_TB := pz_at 73 (by decide +kernel) rfl
theorem wmc_min : Cond.code Lib.Math.min.name Lib.Math.min.code 2 (some .int) ∈ pz_TB := pz_at 416 (by decide +kernel) rfl
theorem w428 : Cond.code yX7_draw cX7_draw 1 (some .int) ∈ pz_TB := pz_at 428 (by decide +kernel) rfl
theorem w425 : Cond.methodLink RX9 148 yX7_draw ∈ pz_TB := pz_at 425 (by decide +kernel) rfl
theorem w426 : Cond.instanceMethod yX7_draw ∈ pz_TB := pz_at 426 (by decide +kernel) rfl
theorem w427 : Cond.selects RX7 yX7_draw yX7_draw ∈ pz_TB := pz_at 427 (by decide +kernel) rfl
theorem wf_X9_152 : Cond.fieldLink RX9 152 "LittlePot$Town" "z" "I" ∈ pz_TB := pz_at 134 (by decide +kernel) rfl
theorem w441 : Cond.code yX7_allAte cX7_allAte 3 (some .int) ∈ pz_TB := pz_at 441 (by decide +kernel) rfl
theorem w438 : Cond.methodLink RX9 155 yX7_allAte ∈ pz_TB := pz_at 438 (by decide +kernel) rfl
theorem w439 : Cond.instanceMethod yX7_allAte ∈ pz_TB := pz_at 439 (by decide +kernel) rfl
theorem w440 : Cond.selects RX7 yX7_allAte yX7_allAte ∈ pz_TB := pz_at 440 (by decide +kernel) rfl
theorem wf_X9_158 : Cond.fieldLink RX9 158 "LittlePot$Town" "minute" "I" ∈ pz_TB := pz_at 132 (by decide +kernel) rfl
theorem w445 : Cond.code yX7_passes cX7_passes 3 none ∈ pz_TB := pz_at 445 (by decide +kernel) rfl
theorem w442 : Cond.methodLink RX9 161 yX7_passes ∈ pz_TB := pz_at 442 (by decide +kernel) rfl
theorem w443 : Cond.instanceMethod yX7_passes ∈ pz_TB := pz_at 443 (by decide +kernel) rfl
theorem w444 : Cond.selects RX7 yX7_passes yX7_passes ∈ pz_TB := pz_at 444 (by decide +kernel) rfl
theorem w512 : Cond.code yX7_allParts cX7_allParts 3 (some .int) ∈ pz_TB := pz_at 512 (by decide +kernel) rfl
theorem w509 : Cond.methodLink RX9 165 yX7_allParts ∈ pz_TB := pz_at 509 (by decide +kernel) rfl
theorem w510 : Cond.instanceMethod yX7_allParts ∈ pz_TB := pz_at 510 (by decide +kernel) rfl
theorem w511 : Cond.selects RX7 yX7_allParts yX7_allParts ∈ pz_TB := pz_at 511 (by decide +kernel) rfl
theorem w516 : Cond.code yX7_wetCells cX7_wetCells 3 (some .int) ∈ pz_TB := pz_at 516 (by decide +kernel) rfl
theorem w513 : Cond.methodLink RX9 168 yX7_wetCells ∈ pz_TB := pz_at 513 (by decide +kernel) rfl
theorem w514 : Cond.instanceMethod yX7_wetCells ∈ pz_TB := pz_at 514 (by decide +kernel) rfl
theorem w515 : Cond.selects RX7 yX7_wetCells yX7_wetCells ∈ pz_TB := pz_at 515 (by decide +kernel) rfl
theorem w453 : Cond.code yX7_pours cX7_pours 3 (some .int) ∈ pz_TB := pz_at 453 (by decide +kernel) rfl
theorem w517 : Cond.methodLink RX9 171 yX7_pours ∈ pz_TB := pz_at 517 (by decide +kernel) rfl
theorem w451 : Cond.instanceMethod yX7_pours ∈ pz_TB := pz_at 451 (by decide +kernel) rfl
theorem w452 : Cond.selects RX7 yX7_pours yX7_pours ∈ pz_TB := pz_at 452 (by decide +kernel) rfl
theorem w525 : Cond.code yX8_fewest cX8_fewest 9 (some .int) ∈ pz_TB := pz_at 525 (by decide +kernel) rfl
theorem w522 : Cond.methodLink RX9 174 yX8_fewest ∈ pz_TB := pz_at 522 (by decide +kernel) rfl
theorem w523 : Cond.instanceMethod yX8_fewest ∈ pz_TB := pz_at 523 (by decide +kernel) rfl
theorem w524 : Cond.selects RX8 yX8_fewest yX8_fewest ∈ pz_TB := pz_at 524 (by decide +kernel) rfl
theorem w535 : Cond.code yX7_becomes cX7_becomes 2 none ∈ pz_TB := pz_at 535 (by decide +kernel) rfl
theorem w532 : Cond.methodLink RX9 178 yX7_becomes ∈ pz_TB := pz_at 532 (by decide +kernel) rfl
theorem w533 : Cond.instanceMethod yX7_becomes ∈ pz_TB := pz_at 533 (by decide +kernel) rfl
theorem w534 : Cond.selects RX7 yX7_becomes yX7_becomes ∈ pz_TB := pz_at 534 (by decide +kernel) rfl
theorem w449 : Cond.code yX7_pass cX7_pass 2 none ∈ pz_TB := pz_at 449 (by decide +kernel) rfl
theorem w543 : Cond.methodLink RX9 182 yX7_pass ∈ pz_TB := pz_at 543 (by decide +kernel) rfl
theorem w447 : Cond.instanceMethod yX7_pass ∈ pz_TB := pz_at 447 (by decide +kernel) rfl
theorem w448 : Cond.selects RX7 yX7_pass yX7_pass ∈ pz_TB := pz_at 448 (by decide +kernel) rfl
theorem wc_X9_185 : Cond.constant RX9 185 (-1000000005) ∈ pz_TB := pz_at 544 (by decide +kernel) rfl
theorem wc_X9_186 : Cond.constant RX9 186 (2147483647) ∈ pz_TB := pz_at 553 (by decide +kernel) rfl
theorem wf_X9_187 : Cond.fieldLink RX9 187 "LittlePot$Town" "walls" "[I" ∈ pz_TB := pz_at 114 (by decide +kernel) rfl
theorem w564 : Cond.code yX9_isSheet cX9_isSheet 1 (some .boolean) ∈ pz_TB := pz_at 564 (by decide +kernel) rfl
theorem w562 : Cond.methodLink RX9 190 yX9_isSheet ∈ pz_TB := pz_at 562 (by decide +kernel) rfl
theorem w563 : Cond.static yX9_isSheet ∈ pz_TB := pz_at 563 (by decide +kernel) rfl
theorem w568 : Cond.code yX4_isMissing cX4_isMissing 1 (some .boolean) ∈ pz_TB := pz_at 568 (by decide +kernel) rfl
theorem w565 : Cond.methodLink RX9 193 yX4_isMissing ∈ pz_TB := pz_at 565 (by decide +kernel) rfl
theorem w566 : Cond.instanceMethod yX4_isMissing ∈ pz_TB := pz_at 566 (by decide +kernel) rfl
theorem w567 : Cond.selects RX4 yX4_isMissing yX4_isMissing ∈ pz_TB := pz_at 567 (by decide +kernel) rfl
theorem wc_X9_197 : Cond.constant RX9 197 (-1000000011) ∈ pz_TB := pz_at 569 (by decide +kernel) rfl
theorem w573 : Cond.code yX4_differsFrom cX4_differsFrom 4 (some .int) ∈ pz_TB := pz_at 573 (by decide +kernel) rfl
theorem w570 : Cond.methodLink RX9 198 yX4_differsFrom ∈ pz_TB := pz_at 570 (by decide +kernel) rfl
theorem w571 : Cond.instanceMethod yX4_differsFrom ∈ pz_TB := pz_at 571 (by decide +kernel) rfl
theorem w572 : Cond.selects RX4 yX4_differsFrom yX4_differsFrom ∈ pz_TB := pz_at 572 (by decide +kernel) rfl
theorem wf_X9_202 : Cond.fieldLink RX9 202 "LittlePot$Town" "texts" "I" ∈ pz_TB := pz_at 136 (by decide +kernel) rfl
theorem w457 : Cond.code yX1_counting cX1_counting 3 (some (.object "LittlePot$Text")) ∈ pz_TB := pz_at 457 (by decide +kernel) rfl
theorem w586 : Cond.methodLink RX9 205 yX1_counting ∈ pz_TB := pz_at 586 (by decide +kernel) rfl
theorem w455 : Cond.instanceMethod yX1_counting ∈ pz_TB := pz_at 455 (by decide +kernel) rfl
theorem w456 : Cond.selects RX1 yX1_counting yX1_counting ∈ pz_TB := pz_at 456 (by decide +kernel) rfl
theorem w471 : Cond.code yX1_given cX1_given 8 (some .int) ∈ pz_TB := pz_at 471 (by decide +kernel) rfl
theorem w587 : Cond.methodLink RX9 209 yX1_given ∈ pz_TB := pz_at 587 (by decide +kernel) rfl
theorem w469 : Cond.instanceMethod yX1_given ∈ pz_TB := pz_at 469 (by decide +kernel) rfl
theorem w470 : Cond.selects RX1 yX1_given yX1_given ∈ pz_TB := pz_at 470 (by decide +kernel) rfl
theorem wf_X9_213 : Cond.fieldLink RX9 213 "LittlePot$Reader" "length" "I" ∈ pz_TB := pz_at 202 (by decide +kernel) rfl
theorem w599 : Cond.code yX3_getsNumber cX3_getsNumber 3 none ∈ pz_TB := pz_at 599 (by decide +kernel) rfl
theorem w596 : Cond.methodLink RX9 216 yX3_getsNumber ∈ pz_TB := pz_at 596 (by decide +kernel) rfl
theorem w597 : Cond.instanceMethod yX3_getsNumber ∈ pz_TB := pz_at 597 (by decide +kernel) rfl
theorem w598 : Cond.selects RX3 yX3_getsNumber yX3_getsNumber ∈ pz_TB := pz_at 598 (by decide +kernel) rfl
theorem w611 : Cond.code yX3_findsFault cX3_findsFault 2 (some .int) ∈ pz_TB := pz_at 611 (by decide +kernel) rfl
theorem w608 : Cond.methodLink RX9 219 yX3_findsFault ∈ pz_TB := pz_at 608 (by decide +kernel) rfl
theorem w609 : Cond.instanceMethod yX3_findsFault ∈ pz_TB := pz_at 609 (by decide +kernel) rfl
theorem w610 : Cond.selects RX3 yX3_findsFault yX3_findsFault ∈ pz_TB := pz_at 610 (by decide +kernel) rfl
theorem wf_X9_222 : Cond.fieldLink RX9 222 "LittlePot$Reader" "draft" "LLittlePot$Text;" ∈ pz_TB := pz_at 200 (by decide +kernel) rfl
theorem w797 : Cond.code yX1_takes cX1_takes 4 (some (.object "LittlePot$Text")) ∈ pz_TB := pz_at 797 (by decide +kernel) rfl
theorem w794 : Cond.methodLink RX9 226 yX1_takes ∈ pz_TB := pz_at 794 (by decide +kernel) rfl
theorem w795 : Cond.instanceMethod yX1_takes ∈ pz_TB := pz_at 795 (by decide +kernel) rfl
theorem w796 : Cond.selects RX1 yX1_takes yX1_takes ∈ pz_TB := pz_at 796 (by decide +kernel) rfl
theorem w466 : Cond.code yX1_numbered cX1_numbered 2 (some (.object "LittlePot$Text")) ∈ pz_TB := pz_at 466 (by decide +kernel) rfl
theorem w803 : Cond.methodLink RX9 230 yX1_numbered ∈ pz_TB := pz_at 803 (by decide +kernel) rfl
theorem w464 : Cond.instanceMethod yX1_numbered ∈ pz_TB := pz_at 464 (by decide +kernel) rfl
theorem w465 : Cond.selects RX1 yX1_numbered yX1_numbered ∈ pz_TB := pz_at 465 (by decide +kernel) rfl
theorem wf_X9_234 : Cond.fieldLink RX9 234 "LittlePot$Text" "key" "I" ∈ pz_TB := pz_at 186 (by decide +kernel) rfl
theorem wf_X9_239 : Cond.fieldLink RX9 239 "LittlePot$Text" "leaves" "I" ∈ pz_TB := pz_at 189 (by decide +kernel) rfl
theorem w461 : Cond.code yX1_last cX1_last 4 (some .int) ∈ pz_TB := pz_at 461 (by decide +kernel) rfl
theorem w808 : Cond.methodLink RX9 242 yX1_last ∈ pz_TB := pz_at 808 (by decide +kernel) rfl
theorem w459 : Cond.instanceMethod yX1_last ∈ pz_TB := pz_at 459 (by decide +kernel) rfl
theorem w460 : Cond.selects RX1 yX1_last yX1_last ∈ pz_TB := pz_at 460 (by decide +kernel) rfl
theorem w816 : Cond.code yX4_becomes cX4_becomes 4 none ∈ pz_TB := pz_at 816 (by decide +kernel) rfl
theorem w813 : Cond.methodLink RX9 245 yX4_becomes ∈ pz_TB := pz_at 813 (by decide +kernel) rfl
theorem w814 : Cond.instanceMethod yX4_becomes ∈ pz_TB := pz_at 814 (by decide +kernel) rfl
theorem w815 : Cond.selects RX4 yX4_becomes yX4_becomes ∈ pz_TB := pz_at 815 (by decide +kernel) rfl
theorem wc_X9_248 : Cond.constant RX9 248 (-1000000014) ∈ pz_TB := pz_at 817 (by decide +kernel) rfl
theorem w825 : Cond.code yX4_hasPlace cX4_hasPlace 2 (some .boolean) ∈ pz_TB := pz_at 825 (by decide +kernel) rfl
theorem w822 : Cond.methodLink RX9 249 yX4_hasPlace ∈ pz_TB := pz_at 822 (by decide +kernel) rfl
theorem w823 : Cond.instanceMethod yX4_hasPlace ∈ pz_TB := pz_at 823 (by decide +kernel) rfl
theorem w824 : Cond.selects RX4 yX4_hasPlace yX4_hasPlace ∈ pz_TB := pz_at 824 (by decide +kernel) rfl
theorem wc_X9_252 : Cond.constant RX9 252 (-1000000013) ∈ pz_TB := pz_at 827 (by decide +kernel) rfl
theorem wf_X9_253 : Cond.fieldLink RX9 253 "LittlePot$Sheet" "sort" "I" ∈ pz_TB := pz_at 252 (by decide +kernel) rfl
theorem wf_X9_256 : Cond.fieldLink RX9 256 "LittlePot$Sheet" "places" "[I" ∈ pz_TB := pz_at 250 (by decide +kernel) rfl
theorem wc_X9_257 : Cond.constant RX9 257 (-99999) ∈ pz_TB := pz_at 828 (by decide +kernel) rfl
theorem wc_X9_258 : Cond.constant RX9 258 (99999) ∈ pz_TB := pz_at 829 (by decide +kernel) rfl
theorem wf_X9_259 : Cond.fieldLink RX9 259 "LittlePot$Town" "heights" "[I" ∈ pz_TB := pz_at 112 (by decide +kernel) rfl
theorem w837 : Cond.code yX4_poursInto cX4_poursInto 5 (some .int) ∈ pz_TB := pz_at 837 (by decide +kernel) rfl
theorem w834 : Cond.methodLink RX9 262 yX4_poursInto ∈ pz_TB := pz_at 834 (by decide +kernel) rfl
theorem w835 : Cond.instanceMethod yX4_poursInto ∈ pz_TB := pz_at 835 (by decide +kernel) rfl
theorem w836 : Cond.selects RX4 yX4_poursInto yX4_poursInto ∈ pz_TB := pz_at 836 (by decide +kernel) rfl
theorem w848 : Cond.code yX4_firstUnlike cX4_firstUnlike 3 (some .int) ∈ pz_TB := pz_at 848 (by decide +kernel) rfl
theorem w845 : Cond.methodLink RX9 265 yX4_firstUnlike ∈ pz_TB := pz_at 845 (by decide +kernel) rfl
theorem w846 : Cond.instanceMethod yX4_firstUnlike ∈ pz_TB := pz_at 846 (by decide +kernel) rfl
theorem w847 : Cond.selects RX4 yX4_firstUnlike yX4_firstUnlike ∈ pz_TB := pz_at 847 (by decide +kernel) rfl
theorem w856 : Cond.code yX4_hasPlaces cX4_hasPlaces 3 (some .boolean) ∈ pz_TB := pz_at 856 (by decide +kernel) rfl
theorem w853 : Cond.methodLink RX9 268 yX4_hasPlaces ∈ pz_TB := pz_at 853 (by decide +kernel) rfl
theorem w854 : Cond.instanceMethod yX4_hasPlaces ∈ pz_TB := pz_at 854 (by decide +kernel) rfl
theorem w855 : Cond.selects RX4 yX4_hasPlaces yX4_hasPlaces ∈ pz_TB := pz_at 855 (by decide +kernel) rfl
theorem wm_X9_271 : Cond.methodLink RX9 271 arraycopyName ∈ pz_TB := pz_at 857 (by decide +kernel) rfl
theorem wac1 : Cond.native arraycopyName ∈ pz_TB := pz_at 538 (by decide +kernel) rfl
theorem wac2 : Cond.static arraycopyName ∈ pz_TB := pz_at 537 (by decide +kernel) rfl
theorem wac3 : Cond.initialized "java/lang/System" ∈ pz_TB := pz_at 75 (by decide +kernel) rfl
theorem w864 : Cond.code yX9_isSlot cX9_isSlot 1 (some .boolean) ∈ pz_TB := pz_at 864 (by decide +kernel) rfl
theorem w862 : Cond.methodLink RX9 277 yX9_isSlot ∈ pz_TB := pz_at 862 (by decide +kernel) rfl
theorem w863 : Cond.static yX9_isSlot ∈ pz_TB := pz_at 863 (by decide +kernel) rfl
theorem wf_X9_280 : Cond.fieldLink RX9 280 "LittlePot$Slot" "thing" "I" ∈ pz_TB := pz_at 268 (by decide +kernel) rfl
theorem wf_X9_283 : Cond.fieldLink RX9 283 "LittlePot$Slot" "kind" "I" ∈ pz_TB := pz_at 269 (by decide +kernel) rfl
theorem wf_X9_286 : Cond.fieldLink RX9 286 "LittlePot$Slot" "ate" "I" ∈ pz_TB := pz_at 270 (by decide +kernel) rfl
theorem wf_X9_289 : Cond.fieldLink RX9 289 "LittlePot$Slot" "row" "LLittlePot$Sheet;" ∈ pz_TB := pz_at 273 (by decide +kernel) rfl
theorem w868 : Cond.code yX4_becomes_ cX4_becomes_ 2 none ∈ pz_TB := pz_at 868 (by decide +kernel) rfl
theorem w865 : Cond.methodLink RX9 293 yX4_becomes_ ∈ pz_TB := pz_at 865 (by decide +kernel) rfl
theorem w866 : Cond.instanceMethod yX4_becomes_ ∈ pz_TB := pz_at 866 (by decide +kernel) rfl
theorem w867 : Cond.selects RX4 yX4_becomes_ yX4_becomes_ ∈ pz_TB := pz_at 867 (by decide +kernel) rfl
theorem wf_X9_296 : Cond.fieldLink RX9 296 "LittlePot$Slot" "number" "I" ∈ pz_TB := pz_at 271 (by decide +kernel) rfl
theorem w877 : Cond.code yX9_unlessHeld cX9_unlessHeld 3 (some .int) ∈ pz_TB := pz_at 877 (by decide +kernel) rfl
theorem w874 : Cond.methodLink RX9 299 yX9_unlessHeld ∈ pz_TB := pz_at 874 (by decide +kernel) rfl
theorem w876 : Cond.instanceMethod yX9_unlessHeld ∈ pz_TB := pz_at 876 (by decide +kernel) rfl
theorem w20 : Cond.selects RX9 yX9_unlessHeld yX9_unlessHeld ∈ pz_TB := pz_at 20 (by decide +kernel) rfl
theorem w577 : Cond.code yX4_isNumber cX4_isNumber 2 (some .boolean) ∈ pz_TB := pz_at 577 (by decide +kernel) rfl
theorem w882 : Cond.methodLink RX9 302 yX4_isNumber ∈ pz_TB := pz_at 882 (by decide +kernel) rfl
theorem w575 : Cond.instanceMethod yX4_isNumber ∈ pz_TB := pz_at 575 (by decide +kernel) rfl
theorem w576 : Cond.selects RX4 yX4_isNumber yX4_isNumber ∈ pz_TB := pz_at 576 (by decide +kernel) rfl
theorem wf_X9_305 : Cond.fieldLink RX9 305 "LittlePot" "waits" "I" ∈ pz_TB := pz_at 296 (by decide +kernel) rfl
theorem wf_X9_308 : Cond.fieldLink RX9 308 "LittlePot" "kept" "Z" ∈ pz_TB := pz_at 295 (by decide +kernel) rfl
theorem w898 : Cond.code yX9_waited cX9_waited 4 (some .boolean) ∈ pz_TB := pz_at 898 (by decide +kernel) rfl
theorem w895 : Cond.methodLink RX9 311 yX9_waited ∈ pz_TB := pz_at 895 (by decide +kernel) rfl
theorem w897 : Cond.instanceMethod yX9_waited ∈ pz_TB := pz_at 897 (by decide +kernel) rfl
theorem w21 : Cond.selects RX9 yX9_waited yX9_waited ∈ pz_TB := pz_at 21 (by decide +kernel) rfl
theorem wm_X10_1 : Cond.methodLink RX10 1 Lib.objectInit ∈ pz_TB := pz_at 916 (by decide +kernel) rfl
theorem wf_X10_7 : Cond.fieldLink RX10 7 "LittlePotModel" "s" "[I" ∈ pz_TB := pz_at 917 (by decide +kernel) rfl
theorem wf_X10_13 : Cond.fieldLink RX10 13 "LittlePotModel" "image" "[I" ∈ pz_TB := pz_at 918 (by decide +kernel) rfl
theorem wf_X10_16 : Cond.fieldLink RX10 16 "LittlePotModel" "aside" "[I" ∈ pz_TB := pz_at 919 (by decide +kernel) rfl
theorem wf_X10_19 : Cond.fieldLink RX10 19 "LittlePotModel" "tSort" "[I" ∈ pz_TB := pz_at 921 (by decide +kernel) rfl
theorem wf_X10_22 : Cond.fieldLink RX10 22 "LittlePotModel" "tSize" "[I" ∈ pz_TB := pz_at 922 (by decide +kernel) rfl
theorem wf_X10_25 : Cond.fieldLink RX10 25 "LittlePotModel" "tNumber" "[I" ∈ pz_TB := pz_at 923 (by decide +kernel) rfl
theorem wf_X10_28 : Cond.fieldLink RX10 28 "LittlePotModel" "held" "[I" ∈ pz_TB := pz_at 924 (by decide +kernel) rfl
theorem wf_X10_31 : Cond.fieldLink RX10 31 "LittlePotModel" "heldNumber" "[I" ∈ pz_TB := pz_at 925 (by decide +kernel) rfl
theorem wf_X10_34 : Cond.fieldLink RX10 34 "LittlePotModel" "heldWorth" "[I" ∈ pz_TB := pz_at 926 (by decide +kernel) rfl
theorem wf_X10_37 : Cond.fieldLink RX10 37 "LittlePotModel" "heldSize" "[I" ∈ pz_TB := pz_at 927 (by decide +kernel) rfl
theorem wf_X10_40 : Cond.fieldLink RX10 40 "LittlePotModel" "heldRow" "[I" ∈ pz_TB := pz_at 928 (by decide +kernel) rfl
theorem wf_X10_43 : Cond.fieldLink RX10 43 "LittlePotModel" "met" "[I" ∈ pz_TB := pz_at 929 (by decide +kernel) rfl
theorem wf_X10_46 : Cond.fieldLink RX10 46 "LittlePotModel" "steps0" "[I" ∈ pz_TB := pz_at 930 (by decide +kernel) rfl
theorem wf_X10_49 : Cond.fieldLink RX10 49 "LittlePotModel" "close" "[I" ∈ pz_TB := pz_at 931 (by decide +kernel) rfl
theorem wf_X10_52 : Cond.fieldLink RX10 52 "LittlePotModel" "tape" "[I" ∈ pz_TB := pz_at 932 (by decide +kernel) rfl
theorem wf_X10_55 : Cond.fieldLink RX10 55 "LittlePotModel" "named" "[I" ∈ pz_TB := pz_at 944 (by decide +kernel) rfl
theorem wf_X10_58 : Cond.fieldLink RX10 58 "LittlePotModel" "pile" "[I" ∈ pz_TB := pz_at 945 (by decide +kernel) rfl
theorem wf_X10_61 : Cond.fieldLink RX10 61 "LittlePotModel" "carried" "[I" ∈ pz_TB := pz_at 946 (by decide +kernel) rfl
theorem wf_X10_64 : Cond.fieldLink RX10 64 "LittlePotModel" "waits" "[I" ∈ pz_TB := pz_at 947 (by decide +kernel) rfl
theorem wf_X10_67 : Cond.fieldLink RX10 67 "LittlePotModel" "rowDue" "[I" ∈ pz_TB := pz_at 949 (by decide +kernel) rfl
theorem wc_X10_70 : Cond.constant RX10 70 (-1000000005) ∈ pz_TB := pz_at 1200 (by decide +kernel) rfl
theorem w1024 : Cond.code yX10_isIn cX10_isIn 6 (some .boolean) ∈ pz_TB := pz_at 1024 (by decide +kernel) rfl
theorem w71 : Cond.initialized RX10 ∈ pz_TB := pz_at 71 (by decide +kernel) rfl
theorem w1022 : Cond.methodLink RX10 71 yX10_isIn ∈ pz_TB := pz_at 1022 (by decide +kernel) rfl
theorem w1023 : Cond.static yX10_isIn ∈ pz_TB := pz_at 1023 (by decide +kernel) rfl
theorem wl_X10_75 : Cond.constantLong RX10 75 (35) ∈ pz_TB := pz_at 1028 (by decide +kernel) rfl
theorem wc_X10_77 : Cond.constant RX10 77 (1103515245) ∈ pz_TB := pz_at 1132 (by decide +kernel) rfl
theorem w1058 : Cond.code yX10_parts cX10_parts 2 (some .int) ∈ pz_TB := pz_at 1058 (by decide +kernel) rfl
theorem w1055 : Cond.methodLink RX10 78 yX10_parts ∈ pz_TB := pz_at 1055 (by decide +kernel) rfl
theorem w1057 : Cond.instanceMethod yX10_parts ∈ pz_TB := pz_at 1057 (by decide +kernel) rfl
theorem w27 : Cond.selects RX10 yX10_parts yX10_parts ∈ pz_TB := pz_at 27 (by decide +kernel) rfl
theorem w1038 : Cond.code yX10_sets cX10_sets 4 none ∈ pz_TB := pz_at 1038 (by decide +kernel) rfl
theorem w1035 : Cond.methodLink RX10 82 yX10_sets ∈ pz_TB := pz_at 1035 (by decide +kernel) rfl
theorem w1037 : Cond.instanceMethod yX10_sets ∈ pz_TB := pz_at 1037 (by decide +kernel) rfl
theorem w23 : Cond.selects RX10 yX10_sets yX10_sets ∈ pz_TB := pz_at 23 (by decide +kernel) rfl
theorem wl_X10_86 : Cond.constantLong RX10 86 (5) ∈ pz_TB := pz_at 1021 (by decide +kernel) rfl
theorem w1027 : Cond.code yX10_isCell cX10_isCell 1 (some .boolean) ∈ pz_TB := pz_at 1027 (by decide +kernel) rfl
theorem w1025 : Cond.methodLink RX10 88 yX10_isCell ∈ pz_TB := pz_at 1025 (by decide +kernel) rfl
theorem w1026 : Cond.static yX10_isCell ∈ pz_TB := pz_at 1026 (by decide +kernel) rfl
theorem wc_X10_92 : Cond.constant RX10 92 (-1000000001) ∈ pz_TB := pz_at 1029 (by decide +kernel) rfl
theorem wc_X10_93 : Cond.constant RX10 93 (-1000000003) ∈ pz_TB := pz_at 1030 (by decide +kernel) rfl
theorem w1034 : Cond.code yX10_comes cX10_comes 4 none ∈ pz_TB := pz_at 1034 (by decide +kernel) rfl
theorem w1031 : Cond.methodLink RX10 94 yX10_comes ∈ pz_TB := pz_at 1031 (by decide +kernel) rfl
theorem w1033 : Cond.instanceMethod yX10_comes ∈ pz_TB := pz_at 1033 (by decide +kernel) rfl
theorem w22 : Cond.selects RX10 yX10_comes yX10_comes ∈ pz_TB := pz_at 22 (by decide +kernel) rfl
theorem w1050 : Cond.code yX10_of cX10_of 3 (some .int) ∈ pz_TB := pz_at 1050 (by decide +kernel) rfl
theorem w1047 : Cond.methodLink RX10 98 yX10_of ∈ pz_TB := pz_at 1047 (by decide +kernel) rfl
theorem w1049 : Cond.instanceMethod yX10_of ∈ pz_TB := pz_at 1049 (by decide +kernel) rfl
theorem w25 : Cond.selects RX10 yX10_of yX10_of ∈ pz_TB := pz_at 25 (by decide +kernel) rfl
theorem w1046 : Cond.code yX10_isEater cX10_isEater 2 (some .boolean) ∈ pz_TB := pz_at 1046 (by decide +kernel) rfl
theorem w1043 : Cond.methodLink RX10 102 yX10_isEater ∈ pz_TB := pz_at 1043 (by decide +kernel) rfl
theorem w1045 : Cond.instanceMethod yX10_isEater ∈ pz_TB := pz_at 1045 (by decide +kernel) rfl
theorem w24 : Cond.selects RX10 yX10_isEater yX10_isEater ∈ pz_TB := pz_at 24 (by decide +kernel) rfl
theorem w1054 : Cond.code yX10_eats cX10_eats 2 (some .int) ∈ pz_TB := pz_at 1054 (by decide +kernel) rfl
theorem w1051 : Cond.methodLink RX10 105 yX10_eats ∈ pz_TB := pz_at 1051 (by decide +kernel) rfl
theorem w1053 : Cond.instanceMethod yX10_eats ∈ pz_TB := pz_at 1053 (by decide +kernel) rfl
theorem w26 : Cond.selects RX10 yX10_eats yX10_eats ∈ pz_TB := pz_at 26 (by decide +kernel) rfl
theorem w1062 : Cond.code yX10_wades cX10_wades 2 (some .int) ∈ pz_TB := pz_at 1062 (by decide +kernel) rfl
theorem w1059 : Cond.methodLink RX10 108 yX10_wades ∈ pz_TB := pz_at 1059 (by decide +kernel) rfl
theorem w1061 : Cond.instanceMethod yX10_wades ∈ pz_TB := pz_at 1061 (by decide +kernel) rfl
theorem w28 : Cond.selects RX10 yX10_wades yX10_wades ∈ pz_TB := pz_at 28 (by decide +kernel) rfl
theorem w1066 : Cond.code yX10_worth cX10_worth 3 (some .int) ∈ pz_TB := pz_at 1066 (by decide +kernel) rfl
theorem w1063 : Cond.methodLink RX10 111 yX10_worth ∈ pz_TB := pz_at 1063 (by decide +kernel) rfl
theorem w1065 : Cond.instanceMethod yX10_worth ∈ pz_TB := pz_at 1065 (by decide +kernel) rfl
theorem w29 : Cond.selects RX10 yX10_worth yX10_worth ∈ pz_TB := pz_at 29 (by decide +kernel) rfl
theorem wl_X10_114 : Cond.constantLong RX10 114 (3) ∈ pz_TB := pz_at 1071 (by decide +kernel) rfl
theorem w1075 : Cond.code yX10_level cX10_level 2 (some .int) ∈ pz_TB := pz_at 1075 (by decide +kernel) rfl
theorem w1072 : Cond.methodLink RX10 116 yX10_level ∈ pz_TB := pz_at 1072 (by decide +kernel) rfl
theorem w1074 : Cond.instanceMethod yX10_level ∈ pz_TB := pz_at 1074 (by decide +kernel) rfl
theorem w30 : Cond.selects RX10 yX10_level yX10_level ∈ pz_TB := pz_at 30 (by decide +kernel) rfl
theorem wl_X10_119 : Cond.constantLong RX10 119 (2) ∈ pz_TB := pz_at 1080 (by decide +kernel) rfl
theorem wl_X10_121 : Cond.constantLong RX10 121 (999) ∈ pz_TB := pz_at 1081 (by decide +kernel) rfl
theorem wl_X10_123 : Cond.constantLong RX10 123 (20) ∈ pz_TB := pz_at 1082 (by decide +kernel) rfl
theorem w1086 : Cond.code yX10_becomes cX10_becomes 4 (some .int) ∈ pz_TB := pz_at 1086 (by decide +kernel) rfl
theorem w1083 : Cond.methodLink RX10 125 yX10_becomes ∈ pz_TB := pz_at 1083 (by decide +kernel) rfl
theorem w1085 : Cond.instanceMethod yX10_becomes ∈ pz_TB := pz_at 1085 (by decide +kernel) rfl
theorem w31 : Cond.selects RX10 yX10_becomes yX10_becomes ∈ pz_TB := pz_at 31 (by decide +kernel) rfl
theorem w1093 : Cond.code yX10_isOf cX10_isOf 2 (some .boolean) ∈ pz_TB := pz_at 1093 (by decide +kernel) rfl
theorem w1091 : Cond.methodLink RX10 128 yX10_isOf ∈ pz_TB := pz_at 1091 (by decide +kernel) rfl
theorem w1092 : Cond.static yX10_isOf ∈ pz_TB := pz_at 1092 (by decide +kernel) rfl
theorem wc_X10_132 : Cond.constant RX10 132 (-1000000012) ∈ pz_TB := pz_at 1094 (by decide +kernel) rfl
theorem wl_X10_133 : Cond.constantLong RX10 133 (9) ∈ pz_TB := pz_at 1111 (by decide +kernel) rfl
theorem wc_X10_135 : Cond.constant RX10 135 (-1000000002) ∈ pz_TB := pz_at 1112 (by decide +kernel) rfl
theorem w1115 : Cond.code yX10_within cX10_within 2 (some .int) ∈ pz_TB := pz_at 1115 (by decide +kernel) rfl
theorem w1113 : Cond.methodLink RX10 136 yX10_within ∈ pz_TB := pz_at 1113 (by decide +kernel) rfl
theorem w1114 : Cond.static yX10_within ∈ pz_TB := pz_at 1114 (by decide +kernel) rfl
theorem w1122 : Cond.code yX10_mostRule cX10_mostRule 1 (some .int) ∈ pz_TB := pz_at 1122 (by decide +kernel) rfl
theorem w1120 : Cond.methodLink RX10 139 yX10_mostRule ∈ pz_TB := pz_at 1120 (by decide +kernel) rfl
theorem w1121 : Cond.static yX10_mostRule ∈ pz_TB := pz_at 1121 (by decide +kernel) rfl
theorem wl_X10_142 : Cond.constantLong RX10 142 (8) ∈ pz_TB := pz_at 1127 (by decide +kernel) rfl
theorem w1131 : Cond.code yX10_drawn cX10_drawn 1 (some .int) ∈ pz_TB := pz_at 1131 (by decide +kernel) rfl
theorem w1128 : Cond.methodLink RX10 144 yX10_drawn ∈ pz_TB := pz_at 1128 (by decide +kernel) rfl
theorem w1130 : Cond.instanceMethod yX10_drawn ∈ pz_TB := pz_at 1130 (by decide +kernel) rfl
theorem w32 : Cond.selects RX10 yX10_drawn yX10_drawn ∈ pz_TB := pz_at 32 (by decide +kernel) rfl
theorem w1153 : Cond.code yX10_counts cX10_counts 4 (some .int) ∈ pz_TB := pz_at 1153 (by decide +kernel) rfl
theorem w1150 : Cond.methodLink RX10 148 yX10_counts ∈ pz_TB := pz_at 1150 (by decide +kernel) rfl
theorem w1152 : Cond.instanceMethod yX10_counts ∈ pz_TB := pz_at 1152 (by decide +kernel) rfl
theorem w35 : Cond.selects RX10 yX10_counts yX10_counts ∈ pz_TB := pz_at 35 (by decide +kernel) rfl
theorem w1161 : Cond.code yX10_worked cX10_worked 6 (some .int) ∈ pz_TB := pz_at 1161 (by decide +kernel) rfl
theorem w1158 : Cond.methodLink RX10 151 yX10_worked ∈ pz_TB := pz_at 1158 (by decide +kernel) rfl
theorem w1160 : Cond.instanceMethod yX10_worked ∈ pz_TB := pz_at 1160 (by decide +kernel) rfl
theorem w37 : Cond.selects RX10 yX10_worked yX10_worked ∈ pz_TB := pz_at 37 (by decide +kernel) rfl
theorem w1171 : Cond.code yX10_beside cX10_beside 2 (some .int) ∈ pz_TB := pz_at 1171 (by decide +kernel) rfl
theorem w1169 : Cond.methodLink RX10 154 yX10_beside ∈ pz_TB := pz_at 1169 (by decide +kernel) rfl
theorem w1170 : Cond.static yX10_beside ∈ pz_TB := pz_at 1170 (by decide +kernel) rfl
theorem w1149 : Cond.code yX10_pours cX10_pours 2 (some .int) ∈ pz_TB := pz_at 1149 (by decide +kernel) rfl
theorem w1146 : Cond.methodLink RX10 157 yX10_pours ∈ pz_TB := pz_at 1146 (by decide +kernel) rfl
theorem w1148 : Cond.instanceMethod yX10_pours ∈ pz_TB := pz_at 1148 (by decide +kernel) rfl
theorem w34 : Cond.selects RX10 yX10_pours yX10_pours ∈ pz_TB := pz_at 34 (by decide +kernel) rfl
theorem w1168 : Cond.code yX10_flows cX10_flows 5 none ∈ pz_TB := pz_at 1168 (by decide +kernel) rfl
theorem w1165 : Cond.methodLink RX10 160 yX10_flows ∈ pz_TB := pz_at 1165 (by decide +kernel) rfl
theorem w1167 : Cond.instanceMethod yX10_flows ∈ pz_TB := pz_at 1167 (by decide +kernel) rfl
theorem w38 : Cond.selects RX10 yX10_flows yX10_flows ∈ pz_TB := pz_at 38 (by decide +kernel) rfl
theorem w1175 : Cond.code yX10_dines cX10_dines 8 (some .int) ∈ pz_TB := pz_at 1175 (by decide +kernel) rfl
theorem w1172 : Cond.methodLink RX10 164 yX10_dines ∈ pz_TB := pz_at 1172 (by decide +kernel) rfl
theorem w1174 : Cond.instanceMethod yX10_dines ∈ pz_TB := pz_at 1174 (by decide +kernel) rfl
theorem w39 : Cond.selects RX10 yX10_dines yX10_dines ∈ pz_TB := pz_at 39 (by decide +kernel) rfl
theorem w1145 : Cond.code yX10_goesOn cX10_goesOn 3 (some .int) ∈ pz_TB := pz_at 1145 (by decide +kernel) rfl
theorem w1142 : Cond.methodLink RX10 167 yX10_goesOn ∈ pz_TB := pz_at 1142 (by decide +kernel) rfl
theorem w1144 : Cond.instanceMethod yX10_goesOn ∈ pz_TB := pz_at 1144 (by decide +kernel) rfl
theorem w33 : Cond.selects RX10 yX10_goesOn yX10_goesOn ∈ pz_TB := pz_at 33 (by decide +kernel) rfl
theorem wl_X10_170 : Cond.constantLong RX10 170 (60) ∈ pz_TB := pz_at 1141 (by decide +kernel) rfl
theorem w1183 : Cond.code yX10_allParts cX10_allParts 3 (some .int) ∈ pz_TB := pz_at 1183 (by decide +kernel) rfl
theorem w1180 : Cond.methodLink RX10 172 yX10_allParts ∈ pz_TB := pz_at 1180 (by decide +kernel) rfl
theorem w1182 : Cond.instanceMethod yX10_allParts ∈ pz_TB := pz_at 1182 (by decide +kernel) rfl
theorem w40 : Cond.selects RX10 yX10_allParts yX10_allParts ∈ pz_TB := pz_at 40 (by decide +kernel) rfl
theorem w1187 : Cond.code yX10_allAte cX10_allAte 3 (some .int) ∈ pz_TB := pz_at 1187 (by decide +kernel) rfl
theorem w1184 : Cond.methodLink RX10 175 yX10_allAte ∈ pz_TB := pz_at 1184 (by decide +kernel) rfl
theorem w1186 : Cond.instanceMethod yX10_allAte ∈ pz_TB := pz_at 1186 (by decide +kernel) rfl
theorem w41 : Cond.selects RX10 yX10_allAte yX10_allAte ∈ pz_TB := pz_at 41 (by decide +kernel) rfl
theorem w1191 : Cond.code yX10_manyWet cX10_manyWet 3 (some .int) ∈ pz_TB := pz_at 1191 (by decide +kernel) rfl
theorem w1188 : Cond.methodLink RX10 178 yX10_manyWet ∈ pz_TB := pz_at 1188 (by decide +kernel) rfl
theorem w1190 : Cond.instanceMethod yX10_manyWet ∈ pz_TB := pz_at 1190 (by decide +kernel) rfl
theorem w42 : Cond.selects RX10 yX10_manyWet yX10_manyWet ∈ pz_TB := pz_at 42 (by decide +kernel) rfl
theorem wl_X10_181 : Cond.constantLong RX10 181 (9999) ∈ pz_TB := pz_at 1196 (by decide +kernel) rfl
theorem w1199 : Cond.code yX10_orNone cX10_orNone 1 (some .int) ∈ pz_TB := pz_at 1199 (by decide +kernel) rfl
theorem w1197 : Cond.methodLink RX10 183 yX10_orNone ∈ pz_TB := pz_at 1197 (by decide +kernel) rfl
theorem w1198 : Cond.static yX10_orNone ∈ pz_TB := pz_at 1198 (by decide +kernel) rfl
theorem wl_X10_186 : Cond.constantLong RX10 186 (37) ∈ pz_TB := pz_at 1205 (by decide +kernel) rfl
theorem w1209 : Cond.code yX10_laysBy cX10_laysBy 2 none ∈ pz_TB := pz_at 1209 (by decide +kernel) rfl
theorem w1206 : Cond.methodLink RX10 188 yX10_laysBy ∈ pz_TB := pz_at 1206 (by decide +kernel) rfl
theorem w1208 : Cond.instanceMethod yX10_laysBy ∈ pz_TB := pz_at 1208 (by decide +kernel) rfl
theorem w43 : Cond.selects RX10 yX10_laysBy yX10_laysBy ∈ pz_TB := pz_at 43 (by decide +kernel) rfl
theorem w1213 : Cond.code yX10_goesOnMany cX10_goesOnMany 4 none ∈ pz_TB := pz_at 1213 (by decide +kernel) rfl
theorem w1210 : Cond.methodLink RX10 191 yX10_goesOnMany ∈ pz_TB := pz_at 1210 (by decide +kernel) rfl
theorem w1212 : Cond.instanceMethod yX10_goesOnMany ∈ pz_TB := pz_at 1212 (by decide +kernel) rfl
theorem w44 : Cond.selects RX10 yX10_goesOnMany yX10_goesOnMany ∈ pz_TB := pz_at 44 (by decide +kernel) rfl
theorem w1217 : Cond.code yX10_laysBack cX10_laysBack 2 none ∈ pz_TB := pz_at 1217 (by decide +kernel) rfl
theorem w1214 : Cond.methodLink RX10 194 yX10_laysBack ∈ pz_TB := pz_at 1214 (by decide +kernel) rfl
theorem w1216 : Cond.instanceMethod yX10_laysBack ∈ pz_TB := pz_at 1216 (by decide +kernel) rfl
theorem w45 : Cond.selects RX10 yX10_laysBack yX10_laysBack ∈ pz_TB := pz_at 45 (by decide +kernel) rfl
theorem wl_X10_197 : Cond.constantLong RX10 197 (40) ∈ pz_TB := pz_at 1234 (by decide +kernel) rfl
theorem wf_X10_199 : Cond.fieldLink RX10 199 "LittlePotModel" "taped" "I" ∈ pz_TB := pz_at 933 (by decide +kernel) rfl
theorem wl_X10_203 : Cond.constantLong RX10 203 (97) ∈ pz_TB := pz_at 1267 (by decide +kernel) rfl
theorem wl_X10_205 : Cond.constantLong RX10 205 (122) ∈ pz_TB := pz_at 1268 (by decide +kernel) rfl
theorem wl_X10_207 : Cond.constantLong RX10 207 (48) ∈ pz_TB := pz_at 1273 (by decide +kernel) rfl
theorem wl_X10_209 : Cond.constantLong RX10 209 (57) ∈ pz_TB := pz_at 1274 (by decide +kernel) rfl
theorem wf_X10_211 : Cond.fieldLink RX10 211 "LittlePotModel" "behind" "I" ∈ pz_TB := pz_at 935 (by decide +kernel) rfl
theorem wf_X10_214 : Cond.fieldLink RX10 214 "LittlePotModel" "token" "I" ∈ pz_TB := pz_at 936 (by decide +kernel) rfl
theorem wf_X10_217 : Cond.fieldLink RX10 217 "LittlePotModel" "begin" "I" ∈ pz_TB := pz_at 934 (by decide +kernel) rfl
theorem w1266 : Cond.code yX10_isLetter cX10_isLetter 2 (some .boolean) ∈ pz_TB := pz_at 1266 (by decide +kernel) rfl
theorem w1263 : Cond.methodLink RX10 220 yX10_isLetter ∈ pz_TB := pz_at 1263 (by decide +kernel) rfl
theorem w1265 : Cond.instanceMethod yX10_isLetter ∈ pz_TB := pz_at 1265 (by decide +kernel) rfl
theorem w48 : Cond.selects RX10 yX10_isLetter yX10_isLetter ∈ pz_TB := pz_at 48 (by decide +kernel) rfl
theorem wf_X10_223 : Cond.fieldLink RX10 223 "LittlePotModel" "letter" "I" ∈ pz_TB := pz_at 938 (by decide +kernel) rfl
theorem w1272 : Cond.code yX10_isDigit cX10_isDigit 2 (some .boolean) ∈ pz_TB := pz_at 1272 (by decide +kernel) rfl
theorem w1269 : Cond.methodLink RX10 226 yX10_isDigit ∈ pz_TB := pz_at 1269 (by decide +kernel) rfl
theorem w1271 : Cond.instanceMethod yX10_isDigit ∈ pz_TB := pz_at 1271 (by decide +kernel) rfl
theorem w49 : Cond.selects RX10 yX10_isDigit yX10_isDigit ∈ pz_TB := pz_at 49 (by decide +kernel) rfl
theorem wf_X10_229 : Cond.fieldLink RX10 229 "LittlePotModel" "number" "I" ∈ pz_TB := pz_at 937 (by decide +kernel) rfl
theorem w1282 : Cond.code yX10_isWordAt cX10_isWordAt 6 (some .boolean) ∈ pz_TB := pz_at 1282 (by decide +kernel) rfl
theorem w1279 : Cond.methodLink RX10 232 yX10_isWordAt ∈ pz_TB := pz_at 1279 (by decide +kernel) rfl
theorem w1281 : Cond.instanceMethod yX10_isWordAt ∈ pz_TB := pz_at 1281 (by decide +kernel) rfl
theorem w51 : Cond.selects RX10 yX10_isWordAt yX10_isWordAt ∈ pz_TB := pz_at 51 (by decide +kernel) rfl
theorem wf_X10_236 : Cond.fieldLink RX10 236 "LittlePotModel" "laidAt" "I" ∈ pz_TB := pz_at 942 (by decide +kernel) rfl
theorem wf_X10_239 : Cond.fieldLink RX10 239 "LittlePotModel" "laid" "I" ∈ pz_TB := pz_at 941 (by decide +kernel) rfl
theorem w1290 : Cond.code yX10_both cX10_both 2 (some .boolean) ∈ pz_TB := pz_at 1290 (by decide +kernel) rfl
theorem w1287 : Cond.methodLink RX10 242 yX10_both ∈ pz_TB := pz_at 1287 (by decide +kernel) rfl
theorem w1289 : Cond.instanceMethod yX10_both ∈ pz_TB := pz_at 1289 (by decide +kernel) rfl
theorem w53 : Cond.selects RX10 yX10_both yX10_both ∈ pz_TB := pz_at 53 (by decide +kernel) rfl
theorem w1317 : Cond.code yX10_isSign cX10_isSign 2 (some .boolean) ∈ pz_TB := pz_at 1317 (by decide +kernel) rfl
theorem w1314 : Cond.methodLink RX10 245 yX10_isSign ∈ pz_TB := pz_at 1314 (by decide +kernel) rfl
theorem w1316 : Cond.instanceMethod yX10_isSign ∈ pz_TB := pz_at 1316 (by decide +kernel) rfl
theorem w59 : Cond.selects RX10 yX10_isSign yX10_isSign ∈ pz_TB := pz_at 59 (by decide +kernel) rfl
theorem w1262 : Cond.code yX10_nextToken cX10_nextToken 3 none ∈ pz_TB := pz_at 1262 (by decide +kernel) rfl
theorem w1259 : Cond.methodLink RX10 248 yX10_nextToken ∈ pz_TB := pz_at 1259 (by decide +kernel) rfl
theorem w1261 : Cond.instanceMethod yX10_nextToken ∈ pz_TB := pz_at 1261 (by decide +kernel) rfl
theorem w47 : Cond.selects RX10 yX10_nextToken yX10_nextToken ∈ pz_TB := pz_at 47 (by decide +kernel) rfl
theorem w1310 : Cond.code yX10_step cX10_step 3 none ∈ pz_TB := pz_at 1310 (by decide +kernel) rfl
theorem w1307 : Cond.methodLink RX10 251 yX10_step ∈ pz_TB := pz_at 1307 (by decide +kernel) rfl
theorem w1309 : Cond.instanceMethod yX10_step ∈ pz_TB := pz_at 1309 (by decide +kernel) rfl
theorem w58 : Cond.selects RX10 yX10_step yX10_step ∈ pz_TB := pz_at 58 (by decide +kernel) rfl
theorem w1294 : Cond.code yX10_test cX10_test 3 (some .boolean) ∈ pz_TB := pz_at 1294 (by decide +kernel) rfl
theorem w1291 : Cond.methodLink RX10 254 yX10_test ∈ pz_TB := pz_at 1291 (by decide +kernel) rfl
theorem w1293 : Cond.instanceMethod yX10_test ∈ pz_TB := pz_at 1293 (by decide +kernel) rfl
theorem w54 : Cond.selects RX10 yX10_test yX10_test ∈ pz_TB := pz_at 54 (by decide +kernel) rfl
theorem w1298 : Cond.code yX10_sum cX10_sum 3 (some .boolean) ∈ pz_TB := pz_at 1298 (by decide +kernel) rfl
theorem w1295 : Cond.methodLink RX10 257 yX10_sum ∈ pz_TB := pz_at 1295 (by decide +kernel) rfl
theorem w1297 : Cond.instanceMethod yX10_sum ∈ pz_TB := pz_at 1297 (by decide +kernel) rfl
theorem w55 : Cond.selects RX10 yX10_sum yX10_sum ∈ pz_TB := pz_at 55 (by decide +kernel) rfl
theorem w1302 : Cond.code yX10_term cX10_term 3 (some .boolean) ∈ pz_TB := pz_at 1302 (by decide +kernel) rfl
theorem w1299 : Cond.methodLink RX10 260 yX10_term ∈ pz_TB := pz_at 1299 (by decide +kernel) rfl
theorem w1301 : Cond.instanceMethod yX10_term ∈ pz_TB := pz_at 1301 (by decide +kernel) rfl
theorem w56 : Cond.selects RX10 yX10_term yX10_term ∈ pz_TB := pz_at 56 (by decide +kernel) rfl
theorem w1306 : Cond.code yX10_part0 cX10_part0 2 (some .boolean) ∈ pz_TB := pz_at 1306 (by decide +kernel) rfl
theorem w1303 : Cond.methodLink RX10 263 yX10_part0 ∈ pz_TB := pz_at 1303 (by decide +kernel) rfl
theorem w1305 : Cond.instanceMethod yX10_part0 ∈ pz_TB := pz_at 1305 (by decide +kernel) rfl
theorem w57 : Cond.selects RX10 yX10_part0 yX10_part0 ∈ pz_TB := pz_at 57 (by decide +kernel) rfl
theorem wf_X10_266 : Cond.fieldLink RX10 266 "LittlePotModel" "said" "I" ∈ pz_TB := pz_at 943 (by decide +kernel) rfl
theorem w1313 : Cond.code yX10_isName cX10_isName 2 (some .boolean) ∈ pz_TB := pz_at 1313 (by decide +kernel) rfl
theorem w1311 : Cond.methodLink RX10 269 yX10_isName ∈ pz_TB := pz_at 1311 (by decide +kernel) rfl
theorem w1312 : Cond.static yX10_isName ∈ pz_TB := pz_at 1312 (by decide +kernel) rfl
theorem wf_X10_272 : Cond.fieldLink RX10 272 "LittlePotModel" "turned" "I" ∈ pz_TB := pz_at 940 (by decide +kernel) rfl
theorem wf_X10_275 : Cond.fieldLink RX10 275 "LittlePotModel" "deep" "I" ∈ pz_TB := pz_at 939 (by decide +kernel) rfl
theorem w1286 : Cond.code yX10_either cX10_either 2 (some .boolean) ∈ pz_TB := pz_at 1286 (by decide +kernel) rfl
theorem w1283 : Cond.methodLink RX10 278 yX10_either ∈ pz_TB := pz_at 1283 (by decide +kernel) rfl
theorem w1285 : Cond.instanceMethod yX10_either ∈ pz_TB := pz_at 1285 (by decide +kernel) rfl
theorem w52 : Cond.selects RX10 yX10_either yX10_either ∈ pz_TB := pz_at 52 (by decide +kernel) rfl
theorem w1157 : Cond.code yX10_textAt cX10_textAt 2 (some .int) ∈ pz_TB := pz_at 1157 (by decide +kernel) rfl
theorem w1154 : Cond.methodLink RX10 281 yX10_textAt ∈ pz_TB := pz_at 1154 (by decide +kernel) rfl
theorem w1156 : Cond.instanceMethod yX10_textAt ∈ pz_TB := pz_at 1156 (by decide +kernel) rfl
theorem w36 : Cond.selects RX10 yX10_textAt yX10_textAt ∈ pz_TB := pz_at 36 (by decide +kernel) rfl
theorem w1278 : Cond.code yX10_key cX10_key 1 (some .int) ∈ pz_TB := pz_at 1278 (by decide +kernel) rfl
theorem w1275 : Cond.methodLink RX10 284 yX10_key ∈ pz_TB := pz_at 1275 (by decide +kernel) rfl
theorem w1277 : Cond.instanceMethod yX10_key ∈ pz_TB := pz_at 1277 (by decide +kernel) rfl
theorem w50 : Cond.selects RX10 yX10_key yX10_key ∈ pz_TB := pz_at 50 (by decide +kernel) rfl
theorem w1258 : Cond.code yX10_parse cX10_parse 3 (some .int) ∈ pz_TB := pz_at 1258 (by decide +kernel) rfl
theorem w1255 : Cond.methodLink RX10 287 yX10_parse ∈ pz_TB := pz_at 1255 (by decide +kernel) rfl
theorem w1257 : Cond.instanceMethod yX10_parse ∈ pz_TB := pz_at 1257 (by decide +kernel) rfl
theorem w46 : Cond.selects RX10 yX10_parse yX10_parse ∈ pz_TB := pz_at 46 (by decide +kernel) rfl
theorem w1325 : Cond.code yX10_isText cX10_isText 2 (some .boolean) ∈ pz_TB := pz_at 1325 (by decide +kernel) rfl
theorem w1322 : Cond.methodLink RX10 290 yX10_isText ∈ pz_TB := pz_at 1322 (by decide +kernel) rfl
theorem w1324 : Cond.instanceMethod yX10_isText ∈ pz_TB := pz_at 1324 (by decide +kernel) rfl
theorem w60 : Cond.selects RX10 yX10_isText yX10_isText ∈ pz_TB := pz_at 60 (by decide +kernel) rfl
theorem w1164 : Cond.code yX10_joined cX10_joined 3 (some .int) ∈ pz_TB := pz_at 1164 (by decide +kernel) rfl
theorem w1162 : Cond.methodLink RX10 293 yX10_joined ∈ pz_TB := pz_at 1162 (by decide +kernel) rfl
theorem w1163 : Cond.static yX10_joined ∈ pz_TB := pz_at 1163 (by decide +kernel) rfl
theorem w1336 : Cond.code yX10_isSheet cX10_isSheet 1 (some .boolean) ∈ pz_TB := pz_at 1336 (by decide +kernel) rfl
theorem w1334 : Cond.methodLink RX10 297 yX10_isSheet ∈ pz_TB := pz_at 1334 (by decide +kernel) rfl
theorem w1335 : Cond.static yX10_isSheet ∈ pz_TB := pz_at 1335 (by decide +kernel) rfl
theorem wl_X10_300 : Cond.constantLong RX10 300 (-1) ∈ pz_TB := pz_at 1337 (by decide +kernel) rfl
theorem wc_X10_302 : Cond.constant RX10 302 (-1000000014) ∈ pz_TB := pz_at 1338 (by decide +kernel) rfl
theorem wc_X10_303 : Cond.constant RX10 303 (-1000000011) ∈ pz_TB := pz_at 1343 (by decide +kernel) rfl
theorem wc_X10_304 : Cond.constant RX10 304 (-1000000013) ∈ pz_TB := pz_at 1344 (by decide +kernel) rfl
theorem wl_X10_305 : Cond.constantLong RX10 305 (-99999) ∈ pz_TB := pz_at 1345 (by decide +kernel) rfl
theorem wl_X10_307 : Cond.constantLong RX10 307 (99999) ∈ pz_TB := pz_at 1346 (by decide +kernel) rfl
theorem w1361 : Cond.code yX10_off cX10_off 2 (some .int) ∈ pz_TB := pz_at 1361 (by decide +kernel) rfl
theorem w1359 : Cond.methodLink RX10 309 yX10_off ∈ pz_TB := pz_at 1359 (by decide +kernel) rfl
theorem w1360 : Cond.static yX10_off ∈ pz_TB := pz_at 1360 (by decide +kernel) rfl
theorem wl_X10_312 : Cond.constantLong RX10 312 (4) ∈ pz_TB := pz_at 1373 (by decide +kernel) rfl
theorem w1372 : Cond.code yX10_isSlot cX10_isSlot 1 (some .boolean) ∈ pz_TB := pz_at 1372 (by decide +kernel) rfl
theorem w1370 : Cond.methodLink RX10 314 yX10_isSlot ∈ pz_TB := pz_at 1370 (by decide +kernel) rfl
theorem w1371 : Cond.static yX10_isSlot ∈ pz_TB := pz_at 1371 (by decide +kernel) rfl
theorem wf_X10_317 : Cond.fieldLink RX10 317 "LittlePotModel" "waiting" "I" ∈ pz_TB := pz_at 948 (by decide +kernel) rfl
theorem wl_X10_320 : Cond.constantLong RX10 320 (30) ∈ pz_TB := pz_at 1394 (by decide +kernel) rfl
theorem wf_X10_322 : Cond.fieldLink RX10 322 "LittlePotModel" "hasImage" "Z" ∈ pz_TB := pz_at 920 (by decide +kernel) rfl
theorem w1398 : Cond.code yX10_setAside cX10_setAside 4 none ∈ pz_TB := pz_at 1398 (by decide +kernel) rfl
theorem w1395 : Cond.methodLink RX10 326 yX10_setAside ∈ pz_TB := pz_at 1395 (by decide +kernel) rfl
theorem w1397 : Cond.instanceMethod yX10_setAside ∈ pz_TB := pz_at 1397 (by decide +kernel) rfl
theorem w61 : Cond.selects RX10 yX10_setAside yX10_setAside ∈ pz_TB := pz_at 61 (by decide +kernel) rfl
theorem w391 : Cond.methodLink RX0 15 yX0_isKind ∈ pz_TB := pz_at 391 (by decide +kernel) rfl
theorem wf_X0_19 : Cond.fieldLink RX0 19 "LittlePot$Kinds" "ABOVE" "[I" ∈ pz_TB := pz_at 392 (by decide +kernel) rfl
theorem w362 : Cond.code yX0_gluttonWorth cX0_gluttonWorth 1 (some .int) ∈ pz_TB := pz_at 362 (by decide +kernel) rfl
theorem w360 : Cond.methodLink RX0 23 yX0_gluttonWorth ∈ pz_TB := pz_at 360 (by decide +kernel) rfl
theorem w361 : Cond.static yX0_gluttonWorth ∈ pz_TB := pz_at 361 (by decide +kernel) rfl
theorem w365 : Cond.code yX0_childWorth cX0_childWorth 1 (some .int) ∈ pz_TB := pz_at 365 (by decide +kernel) rfl
theorem w363 : Cond.methodLink RX0 27 yX0_childWorth ∈ pz_TB := pz_at 363 (by decide +kernel) rfl
theorem w364 : Cond.static yX0_childWorth ∈ pz_TB := pz_at 364 (by decide +kernel) rfl
theorem wm_X1_3 : Cond.methodLink RX1 3 Lib.objectInit ∈ pz_TB := pz_at 94 (by decide +kernel) rfl
theorem wk_X1_11 : Cond.classLink RX1 11 RX6 ∈ pz_TB := pz_at 95 (by decide +kernel) rfl
theorem wf_X1_13 : Cond.fieldLink RX1 13 "LittlePot$Laws" "texts" "[LLittlePot$Text;" ∈ pz_TB := pz_at 97 (by decide +kernel) rfl
theorem wf_X1_17 : Cond.fieldLink RX1 17 "LittlePot$Laws" "stack" "[I" ∈ pz_TB := pz_at 98 (by decide +kernel) rfl
theorem wi_RX6 : Cond.instantiable RX6 4 ∈ pz_TB := pz_at 174 (by decide +kernel) rfl
theorem wn_RX6 : Cond.initialized RX6 ∈ pz_TB := pz_at 67 (by decide +kernel) rfl
theorem w177 : Cond.code yX6_init cX6_init 1 none ∈ pz_TB := pz_at 177 (by decide +kernel) rfl
theorem w67 : Cond.initialized RX6 ∈ pz_TB := pz_at 67 (by decide +kernel) rfl
theorem w176 : Cond.instanceMethod yX6_init ∈ pz_TB := pz_at 176 (by decide +kernel) rfl
theorem wm_X1_26 : Cond.methodLink RX1 26 Lib.Math.min.name ∈ pz_TB := pz_at 462 (by decide +kernel) rfl
theorem wf_X1_32 : Cond.fieldLink RX1 32 "LittlePot$Text" "key" "I" ∈ pz_TB := pz_at 184 (by decide +kernel) rfl
theorem w458 : Cond.methodLink RX1 36 yX1_last ∈ pz_TB := pz_at 458 (by decide +kernel) rfl
theorem w463 : Cond.methodLink RX1 39 yX1_numbered ∈ pz_TB := pz_at 463 (by decide +kernel) rfl
theorem wf_X1_43 : Cond.fieldLink RX1 43 "LittlePot$Text" "size" "I" ∈ pz_TB := pz_at 182 (by decide +kernel) rfl
theorem wf_X1_46 : Cond.fieldLink RX1 46 "LittlePot$Text" "code" "[I" ∈ pz_TB := pz_at 180 (by decide +kernel) rfl
theorem w474 : Cond.code yX1_joined cX1_joined 3 (some .int) ∈ pz_TB := pz_at 474 (by decide +kernel) rfl
theorem w472 : Cond.methodLink RX1 49 yX1_joined ∈ pz_TB := pz_at 472 (by decide +kernel) rfl
theorem w473 : Cond.static yX1_joined ∈ pz_TB := pz_at 473 (by decide +kernel) rfl
theorem wf_X2_7 : Cond.fieldLink RX2 7 "LittlePot$Near" "CELL" "[I" ∈ pz_TB := pz_at 487 (by decide +kernel) rfl
theorem wm_X3_3 : Cond.methodLink RX3 3 Lib.objectInit ∈ pz_TB := pz_at 172 (by decide +kernel) rfl
theorem wk_X3_9 : Cond.classLink RX3 9 RX6 ∈ pz_TB := pz_at 173 (by decide +kernel) rfl
theorem wf_X3_12 : Cond.fieldLink RX3 12 "LittlePot$Reader" "draft" "LLittlePot$Text;" ∈ pz_TB := pz_at 199 (by decide +kernel) rfl
theorem wa_byte : Cond.arrayClass .byte ∈ pz_TB := pz_at 226 (by decide +kernel) rfl
theorem wf_X3_18 : Cond.fieldLink RX3 18 "LittlePot$Reader" "bytes" "[B" ∈ pz_TB := pz_at 203 (by decide +kernel) rfl
theorem wf_X3_22 : Cond.fieldLink RX3 22 "LittlePot$Reader" "length" "I" ∈ pz_TB := pz_at 201 (by decide +kernel) rfl
theorem wf_X3_26 : Cond.fieldLink RX3 26 "LittlePot$Reader" "sort" "I" ∈ pz_TB := pz_at 204 (by decide +kernel) rfl
theorem wf_X3_29 : Cond.fieldLink RX3 29 "LittlePot$Reader" "start" "I" ∈ pz_TB := pz_at 205 (by decide +kernel) rfl
theorem wf_X3_32 : Cond.fieldLink RX3 32 "LittlePot$Reader" "end" "I" ∈ pz_TB := pz_at 206 (by decide +kernel) rfl
theorem wf_X3_35 : Cond.fieldLink RX3 35 "LittlePot$Reader" "parens" "I" ∈ pz_TB := pz_at 207 (by decide +kernel) rfl
theorem wf_X3_38 : Cond.fieldLink RX3 38 "LittlePot$Reader" "nots" "I" ∈ pz_TB := pz_at 208 (by decide +kernel) rfl
theorem w615 : Cond.code yX3_goesOn cX3_goesOn 3 none ∈ pz_TB := pz_at 615 (by decide +kernel) rfl
theorem w612 : Cond.methodLink RX3 41 yX3_goesOn ∈ pz_TB := pz_at 612 (by decide +kernel) rfl
theorem w614 : Cond.instanceMethod yX3_goesOn ∈ pz_TB := pz_at 614 (by decide +kernel) rfl
theorem w4 : Cond.selects RX3 yX3_goesOn yX3_goesOn ∈ pz_TB := pz_at 4 (by decide +kernel) rfl
theorem w628 : Cond.code yX3_keyHere cX3_keyHere 1 (some .int) ∈ pz_TB := pz_at 628 (by decide +kernel) rfl
theorem w625 : Cond.methodLink RX3 44 yX3_keyHere ∈ pz_TB := pz_at 625 (by decide +kernel) rfl
theorem w627 : Cond.instanceMethod yX3_keyHere ∈ pz_TB := pz_at 627 (by decide +kernel) rfl
theorem w7 : Cond.selects RX3 yX3_keyHere yX3_keyHere ∈ pz_TB := pz_at 7 (by decide +kernel) rfl
theorem w687 : Cond.code yX6_begins cX6_begins 2 none ∈ pz_TB := pz_at 687 (by decide +kernel) rfl
theorem w684 : Cond.methodLink RX3 48 yX6_begins ∈ pz_TB := pz_at 684 (by decide +kernel) rfl
theorem w685 : Cond.instanceMethod yX6_begins ∈ pz_TB := pz_at 685 (by decide +kernel) rfl
theorem w686 : Cond.selects RX6 yX6_begins yX6_begins ∈ pz_TB := pz_at 686 (by decide +kernel) rfl
theorem w691 : Cond.code yX3_readsOr cX3_readsOr 3 (some .boolean) ∈ pz_TB := pz_at 691 (by decide +kernel) rfl
theorem w688 : Cond.methodLink RX3 52 yX3_readsOr ∈ pz_TB := pz_at 688 (by decide +kernel) rfl
theorem w690 : Cond.instanceMethod yX3_readsOr ∈ pz_TB := pz_at 690 (by decide +kernel) rfl
theorem w9 : Cond.selects RX3 yX3_readsOr yX3_readsOr ∈ pz_TB := pz_at 9 (by decide +kernel) rfl
theorem w619 : Cond.code yX3_isLetter cX3_isLetter 2 (some .boolean) ∈ pz_TB := pz_at 619 (by decide +kernel) rfl
theorem w616 : Cond.methodLink RX3 56 yX3_isLetter ∈ pz_TB := pz_at 616 (by decide +kernel) rfl
theorem w618 : Cond.instanceMethod yX3_isLetter ∈ pz_TB := pz_at 618 (by decide +kernel) rfl
theorem w5 : Cond.selects RX3 yX3_isLetter yX3_isLetter ∈ pz_TB := pz_at 5 (by decide +kernel) rfl
theorem w624 : Cond.code yX3_isDigit cX3_isDigit 2 (some .boolean) ∈ pz_TB := pz_at 624 (by decide +kernel) rfl
theorem w621 : Cond.methodLink RX3 60 yX3_isDigit ∈ pz_TB := pz_at 621 (by decide +kernel) rfl
theorem w623 : Cond.instanceMethod yX3_isDigit ∈ pz_TB := pz_at 623 (by decide +kernel) rfl
theorem w6 : Cond.selects RX3 yX3_isDigit yX3_isDigit ∈ pz_TB := pz_at 6 (by decide +kernel) rfl
theorem w633 : Cond.code yX3_isWord cX3_isWord 3 (some .boolean) ∈ pz_TB := pz_at 633 (by decide +kernel) rfl
theorem w630 : Cond.methodLink RX3 69 yX3_isWord ∈ pz_TB := pz_at 630 (by decide +kernel) rfl
theorem w632 : Cond.instanceMethod yX3_isWord ∈ pz_TB := pz_at 632 (by decide +kernel) rfl
theorem w8 : Cond.selects RX3 yX3_isWord yX3_isWord ∈ pz_TB := pz_at 8 (by decide +kernel) rfl
theorem w637 : Cond.code yJ0_length_8abf5 cJ0_length_8abf5 1 (some .int) ∈ pz_TB := pz_at 637 (by decide +kernel) rfl
theorem w76 : Cond.initialized RJ0 ∈ pz_TB := pz_at 76 (by decide +kernel) rfl
theorem w634 : Cond.methodLink RX3 79 yJ0_length_8abf5 ∈ pz_TB := pz_at 634 (by decide +kernel) rfl
theorem w635 : Cond.instanceMethod yJ0_length_8abf5 ∈ pz_TB := pz_at 635 (by decide +kernel) rfl
theorem w636 : Cond.selects RJ0 yJ0_length_8abf5 yJ0_length_8abf5 ∈ pz_TB := pz_at 636 (by decide +kernel) rfl
theorem w647 : Cond.code yJ0_charAt_5068e cJ0_charAt_5068e 2 (some .char) ∈ pz_TB := pz_at 647 (by decide +kernel) rfl
theorem w644 : Cond.methodLink RX3 83 yJ0_charAt_5068e ∈ pz_TB := pz_at 644 (by decide +kernel) rfl
theorem w645 : Cond.instanceMethod yJ0_charAt_5068e ∈ pz_TB := pz_at 645 (by decide +kernel) rfl
theorem w646 : Cond.selects RJ0 yJ0_charAt_5068e yJ0_charAt_5068e ∈ pz_TB := pz_at 646 (by decide +kernel) rfl
theorem wf_X3_87 : Cond.fieldLink RX3 87 "LittlePot$Text" "key" "I" ∈ pz_TB := pz_at 185 (by decide +kernel) rfl
theorem w738 : Cond.code yJ0_indexOf_0f7a4 cJ0_indexOf_0f7a4 2 (some .int) ∈ pz_TB := pz_at 738 (by decide +kernel) rfl
theorem w735 : Cond.methodLink RX3 96 yJ0_indexOf_0f7a4 ∈ pz_TB := pz_at 735 (by decide +kernel) rfl
theorem w736 : Cond.instanceMethod yJ0_indexOf_0f7a4 ∈ pz_TB := pz_at 736 (by decide +kernel) rfl
theorem w737 : Cond.selects RJ0 yJ0_indexOf_0f7a4 yJ0_indexOf_0f7a4 ∈ pz_TB := pz_at 737 (by decide +kernel) rfl
theorem w695 : Cond.code yX3_readsAnd cX3_readsAnd 3 (some .boolean) ∈ pz_TB := pz_at 695 (by decide +kernel) rfl
theorem w692 : Cond.methodLink RX3 100 yX3_readsAnd ∈ pz_TB := pz_at 692 (by decide +kernel) rfl
theorem w694 : Cond.instanceMethod yX3_readsAnd ∈ pz_TB := pz_at 694 (by decide +kernel) rfl
theorem w10 : Cond.selects RX3 yX3_readsAnd yX3_readsAnd ∈ pz_TB := pz_at 10 (by decide +kernel) rfl
theorem w715 : Cond.code yX3_isSign cX3_isSign 2 (some .boolean) ∈ pz_TB := pz_at 715 (by decide +kernel) rfl
theorem w712 : Cond.methodLink RX3 103 yX3_isSign ∈ pz_TB := pz_at 712 (by decide +kernel) rfl
theorem w714 : Cond.instanceMethod yX3_isSign ∈ pz_TB := pz_at 714 (by decide +kernel) rfl
theorem w15 : Cond.selects RX3 yX3_isSign yX3_isSign ∈ pz_TB := pz_at 15 (by decide +kernel) rfl
theorem w723 : Cond.code yX6_adds cX6_adds 2 none ∈ pz_TB := pz_at 723 (by decide +kernel) rfl
theorem w720 : Cond.methodLink RX3 107 yX6_adds ∈ pz_TB := pz_at 720 (by decide +kernel) rfl
theorem w721 : Cond.instanceMethod yX6_adds ∈ pz_TB := pz_at 721 (by decide +kernel) rfl
theorem w722 : Cond.selects RX6 yX6_adds yX6_adds ∈ pz_TB := pz_at 722 (by decide +kernel) rfl
theorem w699 : Cond.code yX3_readsTest cX3_readsTest 3 (some .boolean) ∈ pz_TB := pz_at 699 (by decide +kernel) rfl
theorem w696 : Cond.methodLink RX3 110 yX3_readsTest ∈ pz_TB := pz_at 696 (by decide +kernel) rfl
theorem w698 : Cond.instanceMethod yX3_readsTest ∈ pz_TB := pz_at 698 (by decide +kernel) rfl
theorem w11 : Cond.selects RX3 yX3_readsTest yX3_readsTest ∈ pz_TB := pz_at 11 (by decide +kernel) rfl
theorem w703 : Cond.code yX3_readsSum cX3_readsSum 4 (some .boolean) ∈ pz_TB := pz_at 703 (by decide +kernel) rfl
theorem w700 : Cond.methodLink RX3 113 yX3_readsSum ∈ pz_TB := pz_at 700 (by decide +kernel) rfl
theorem w702 : Cond.instanceMethod yX3_readsSum ∈ pz_TB := pz_at 702 (by decide +kernel) rfl
theorem w12 : Cond.selects RX3 yX3_readsSum yX3_readsSum ∈ pz_TB := pz_at 12 (by decide +kernel) rfl
theorem w707 : Cond.code yX3_readsTerm cX3_readsTerm 4 (some .boolean) ∈ pz_TB := pz_at 707 (by decide +kernel) rfl
theorem w704 : Cond.methodLink RX3 116 yX3_readsTerm ∈ pz_TB := pz_at 704 (by decide +kernel) rfl
theorem w706 : Cond.instanceMethod yX3_readsTerm ∈ pz_TB := pz_at 706 (by decide +kernel) rfl
theorem w13 : Cond.selects RX3 yX3_readsTerm yX3_readsTerm ∈ pz_TB := pz_at 13 (by decide +kernel) rfl
theorem w711 : Cond.code yX3_readsPiece cX3_readsPiece 2 (some .boolean) ∈ pz_TB := pz_at 711 (by decide +kernel) rfl
theorem w708 : Cond.methodLink RX3 119 yX3_readsPiece ∈ pz_TB := pz_at 708 (by decide +kernel) rfl
theorem w710 : Cond.instanceMethod yX3_readsPiece ∈ pz_TB := pz_at 710 (by decide +kernel) rfl
theorem w14 : Cond.selects RX3 yX3_readsPiece yX3_readsPiece ∈ pz_TB := pz_at 14 (by decide +kernel) rfl
theorem w719 : Cond.code yX3_readsNot cX3_readsNot 2 (some .boolean) ∈ pz_TB := pz_at 719 (by decide +kernel) rfl
theorem w716 : Cond.methodLink RX3 122 yX3_readsNot ∈ pz_TB := pz_at 716 (by decide +kernel) rfl
theorem w718 : Cond.instanceMethod yX3_readsNot ∈ pz_TB := pz_at 718 (by decide +kernel) rfl
theorem w16 : Cond.selects RX3 yX3_readsNot yX3_readsNot ∈ pz_TB := pz_at 16 (by decide +kernel) rfl
theorem w727 : Cond.code yX3_readsParen cX3_readsParen 2 (some .boolean) ∈ pz_TB := pz_at 727 (by decide +kernel) rfl
theorem w724 : Cond.methodLink RX3 125 yX3_readsParen ∈ pz_TB := pz_at 724 (by decide +kernel) rfl
theorem w726 : Cond.instanceMethod yX3_readsParen ∈ pz_TB := pz_at 726 (by decide +kernel) rfl
theorem w17 : Cond.selects RX3 yX3_readsParen yX3_readsParen ∈ pz_TB := pz_at 17 (by decide +kernel) rfl
theorem w731 : Cond.code yX3_nameHere cX3_nameHere 2 (some .int) ∈ pz_TB := pz_at 731 (by decide +kernel) rfl
theorem w728 : Cond.methodLink RX3 128 yX3_nameHere ∈ pz_TB := pz_at 728 (by decide +kernel) rfl
theorem w730 : Cond.instanceMethod yX3_nameHere ∈ pz_TB := pz_at 730 (by decide +kernel) rfl
theorem w18 : Cond.selects RX3 yX3_nameHere yX3_nameHere ∈ pz_TB := pz_at 18 (by decide +kernel) rfl
theorem w793 : Cond.code yX3_numberHere cX3_numberHere 3 (some .int) ∈ pz_TB := pz_at 793 (by decide +kernel) rfl
theorem w790 : Cond.methodLink RX3 131 yX3_numberHere ∈ pz_TB := pz_at 790 (by decide +kernel) rfl
theorem w792 : Cond.instanceMethod yX3_numberHere ∈ pz_TB := pz_at 792 (by decide +kernel) rfl
theorem w19 : Cond.selects RX3 yX3_numberHere yX3_numberHere ∈ pz_TB := pz_at 19 (by decide +kernel) rfl
theorem wf_X3_134 : Cond.fieldLink RX3 134 "LittlePot$Text" "leaves" "I" ∈ pz_TB := pz_at 188 (by decide +kernel) rfl
theorem wm_X4_3 : Cond.methodLink RX4 3 Lib.objectInit ∈ pz_TB := pz_at 248 (by decide +kernel) rfl
theorem wf_X4_9 : Cond.fieldLink RX4 9 "LittlePot$Sheet" "places" "[I" ∈ pz_TB := pz_at 249 (by decide +kernel) rfl
theorem wf_X4_15 : Cond.fieldLink RX4 15 "LittlePot$Sheet" "sort" "I" ∈ pz_TB := pz_at 251 (by decide +kernel) rfl
theorem wf_X4_19 : Cond.fieldLink RX4 19 "LittlePot$Sheet" "size" "I" ∈ pz_TB := pz_at 253 (by decide +kernel) rfl
theorem wm_X4_22 : Cond.methodLink RX4 22 arraycopyName ∈ pz_TB := pz_at 869 (by decide +kernel) rfl
theorem wc_X4_32 : Cond.constant RX4 32 (-1000000005) ∈ pz_TB := pz_at 578 (by decide +kernel) rfl
theorem w574 : Cond.methodLink RX4 33 yX4_isNumber ∈ pz_TB := pz_at 574 (by decide +kernel) rfl
theorem wm_X4_37 : Cond.methodLink RX4 37 Lib.Math.abs.name ∈ pz_TB := pz_at 579 (by decide +kernel) rfl
theorem wms_abs : Cond.static Lib.Math.abs.name ∈ pz_TB := pz_at 580 (by decide +kernel) rfl
theorem wmc_abs : Cond.code Lib.Math.abs.name Lib.Math.abs.code 1 (some .int) ∈ pz_TB := pz_at 581 (by decide +kernel) rfl
theorem wm_X4_46 : Cond.methodLink RX4 46 Lib.Math.min.name ∈ pz_TB := pz_at 839 (by decide +kernel) rfl
theorem wm_X4_50 : Cond.methodLink RX4 50 Lib.Math.max.name ∈ pz_TB := pz_at 840 (by decide +kernel) rfl
theorem wms_max : Cond.static Lib.Math.max.name ∈ pz_TB := pz_at 477 (by decide +kernel) rfl
theorem wmc_max : Cond.code Lib.Math.max.name Lib.Math.max.code 2 (some .int) ∈ pz_TB := pz_at 478 (by decide +kernel) rfl
theorem wm_X5_1 : Cond.methodLink RX5 1 Lib.objectInit ∈ pz_TB := pz_at 265 (by decide +kernel) rfl
theorem wk_X5_7 : Cond.classLink RX5 7 RX4 ∈ pz_TB := pz_at 266 (by decide +kernel) rfl
theorem wf_X5_10 : Cond.fieldLink RX5 10 "LittlePot$Slot" "row" "LLittlePot$Sheet;" ∈ pz_TB := pz_at 272 (by decide +kernel) rfl
theorem wm_X6_3 : Cond.methodLink RX6 3 Lib.objectInit ∈ pz_TB := pz_at 178 (by decide +kernel) rfl
theorem wf_X6_9 : Cond.fieldLink RX6 9 "LittlePot$Text" "code" "[I" ∈ pz_TB := pz_at 179 (by decide +kernel) rfl
theorem wf_X6_15 : Cond.fieldLink RX6 15 "LittlePot$Text" "key" "I" ∈ pz_TB := pz_at 183 (by decide +kernel) rfl
theorem wf_X6_19 : Cond.fieldLink RX6 19 "LittlePot$Text" "size" "I" ∈ pz_TB := pz_at 181 (by decide +kernel) rfl
theorem wf_X6_22 : Cond.fieldLink RX6 22 "LittlePot$Text" "leaves" "I" ∈ pz_TB := pz_at 187 (by decide +kernel) rfl
theorem wm_X7_3 : Cond.methodLink RX7 3 Lib.objectInit ∈ pz_TB := pz_at 110 (by decide +kernel) rfl
theorem wf_X7_9 : Cond.fieldLink RX7 9 "LittlePot$Town" "heights" "[I" ∈ pz_TB := pz_at 111 (by decide +kernel) rfl
theorem wf_X7_15 : Cond.fieldLink RX7 15 "LittlePot$Town" "walls" "[I" ∈ pz_TB := pz_at 113 (by decide +kernel) rfl
theorem wf_X7_18 : Cond.fieldLink RX7 18 "LittlePot$Town" "parts" "[I" ∈ pz_TB := pz_at 115 (by decide +kernel) rfl
theorem wf_X7_21 : Cond.fieldLink RX7 21 "LittlePot$Town" "kinds" "[I" ∈ pz_TB := pz_at 117 (by decide +kernel) rfl
theorem wf_X7_24 : Cond.fieldLink RX7 24 "LittlePot$Town" "places" "[I" ∈ pz_TB := pz_at 119 (by decide +kernel) rfl
theorem wf_X7_27 : Cond.fieldLink RX7 27 "LittlePot$Town" "ates" "[I" ∈ pz_TB := pz_at 121 (by decide +kernel) rfl
theorem wf_X7_30 : Cond.fieldLink RX7 30 "LittlePot$Town" "rules" "[I" ∈ pz_TB := pz_at 123 (by decide +kernel) rfl
theorem wf_X7_33 : Cond.fieldLink RX7 33 "LittlePot$Town" "z" "I" ∈ pz_TB := pz_at 133 (by decide +kernel) rfl
theorem wf_X7_37 : Cond.fieldLink RX7 37 "LittlePot$Town" "laws" "LLittlePot$Laws;" ∈ pz_TB := pz_at 137 (by decide +kernel) rfl
theorem wm_X7_41 : Cond.methodLink RX7 41 arraycopyName ∈ pz_TB := pz_at 536 (by decide +kernel) rfl
theorem wf_X7_47 : Cond.fieldLink RX7 47 "LittlePot$Town" "eaters" "I" ∈ pz_TB := pz_at 126 (by decide +kernel) rfl
theorem wf_X7_50 : Cond.fieldLink RX7 50 "LittlePot$Town" "pot" "I" ∈ pz_TB := pz_at 127 (by decide +kernel) rfl
theorem wf_X7_53 : Cond.fieldLink RX7 53 "LittlePot$Town" "cooks" "Z" ∈ pz_TB := pz_at 129 (by decide +kernel) rfl
theorem wf_X7_57 : Cond.fieldLink RX7 57 "LittlePot$Town" "minute" "I" ∈ pz_TB := pz_at 131 (by decide +kernel) rfl
theorem wf_X7_60 : Cond.fieldLink RX7 60 "LittlePot$Town" "texts" "I" ∈ pz_TB := pz_at 135 (by decide +kernel) rfl
theorem w454 : Cond.methodLink RX7 69 yX1_counting ∈ pz_TB := pz_at 454 (by decide +kernel) rfl
theorem w468 : Cond.methodLink RX7 73 yX1_given ∈ pz_TB := pz_at 468 (by decide +kernel) rfl
theorem wm_X7_77 : Cond.methodLink RX7 77 Lib.Math.min.name ∈ pz_TB := pz_at 475 (by decide +kernel) rfl
theorem wm_X7_83 : Cond.methodLink RX7 83 Lib.Math.max.name ∈ pz_TB := pz_at 476 (by decide +kernel) rfl
theorem wc_X7_86 : Cond.constant RX7 86 (1103515245) ∈ pz_TB := pz_at 429 (by decide +kernel) rfl
theorem w446 : Cond.methodLink RX7 87 yX7_pass ∈ pz_TB := pz_at 446 (by decide +kernel) rfl
theorem w450 : Cond.methodLink RX7 90 yX7_pours ∈ pz_TB := pz_at 450 (by decide +kernel) rfl
theorem w482 : Cond.code yX7_flows cX7_flows 6 none ∈ pz_TB := pz_at 482 (by decide +kernel) rfl
theorem w479 : Cond.methodLink RX7 94 yX7_flows ∈ pz_TB := pz_at 479 (by decide +kernel) rfl
theorem w481 : Cond.instanceMethod yX7_flows ∈ pz_TB := pz_at 481 (by decide +kernel) rfl
theorem w0 : Cond.selects RX7 yX7_flows yX7_flows ∈ pz_TB := pz_at 0 (by decide +kernel) rfl
theorem w493 : Cond.code yX7_feasts cX7_feasts 4 none ∈ pz_TB := pz_at 493 (by decide +kernel) rfl
theorem w490 : Cond.methodLink RX7 98 yX7_feasts ∈ pz_TB := pz_at 490 (by decide +kernel) rfl
theorem w492 : Cond.instanceMethod yX7_feasts ∈ pz_TB := pz_at 492 (by decide +kernel) rfl
theorem w1 : Cond.selects RX7 yX7_feasts yX7_feasts ∈ pz_TB := pz_at 1 (by decide +kernel) rfl
theorem w503 : Cond.code yX7_miceEat cX7_miceEat 2 none ∈ pz_TB := pz_at 503 (by decide +kernel) rfl
theorem w500 : Cond.methodLink RX7 101 yX7_miceEat ∈ pz_TB := pz_at 500 (by decide +kernel) rfl
theorem w502 : Cond.instanceMethod yX7_miceEat ∈ pz_TB := pz_at 502 (by decide +kernel) rfl
theorem w3 : Cond.selects RX7 yX7_miceEat yX7_miceEat ∈ pz_TB := pz_at 3 (by decide +kernel) rfl
theorem wc_X7_104 : Cond.constant RX7 104 (2147483647) ∈ pz_TB := pz_at 483 (by decide +kernel) rfl
theorem w486 : Cond.code yX2_beside cX2_beside 2 (some .int) ∈ pz_TB := pz_at 486 (by decide +kernel) rfl
theorem w74 : Cond.initialized RX2 ∈ pz_TB := pz_at 74 (by decide +kernel) rfl
theorem w484 : Cond.methodLink RX7 107 yX2_beside ∈ pz_TB := pz_at 484 (by decide +kernel) rfl
theorem w485 : Cond.static yX2_beside ∈ pz_TB := pz_at 485 (by decide +kernel) rfl
theorem w489 : Cond.methodLink RX7 110 yX7_level ∈ pz_TB := pz_at 489 (by decide +kernel) rfl
theorem w494 : Cond.methodLink RX7 114 yX0_eats ∈ pz_TB := pz_at 494 (by decide +kernel) rfl
theorem w495 : Cond.methodLink RX7 119 yX0_wades ∈ pz_TB := pz_at 495 (by decide +kernel) rfl
theorem w499 : Cond.code yX7_fullestBeside cX7_fullestBeside 7 (some .int) ∈ pz_TB := pz_at 499 (by decide +kernel) rfl
theorem w496 : Cond.methodLink RX7 122 yX7_fullestBeside ∈ pz_TB := pz_at 496 (by decide +kernel) rfl
theorem w498 : Cond.instanceMethod yX7_fullestBeside ∈ pz_TB := pz_at 498 (by decide +kernel) rfl
theorem w2 : Cond.selects RX7 yX7_fullestBeside yX7_fullestBeside ∈ pz_TB := pz_at 2 (by decide +kernel) rfl
theorem w504 : Cond.methodLink RX7 125 yX7_draw ∈ pz_TB := pz_at 504 (by decide +kernel) rfl
theorem wm_X8_3 : Cond.methodLink RX8 3 Lib.objectInit ∈ pz_TB := pz_at 232 (by decide +kernel) rfl
theorem wf_X8_9 : Cond.fieldLink RX8 9 "LittlePot$Ways" "steps" "[I" ∈ pz_TB := pz_at 233 (by decide +kernel) rfl
theorem wf_X8_15 : Cond.fieldLink RX8 15 "LittlePot$Ways" "reached" "[I" ∈ pz_TB := pz_at 234 (by decide +kernel) rfl
theorem wc_X8_18 : Cond.constant RX8 18 (-1000000005) ∈ pz_TB := pz_at 526 (by decide +kernel) rfl
theorem w527 : Cond.methodLink RX8 21 yX2_beside ∈ pz_TB := pz_at 527 (by decide +kernel) rfl
theorem wk_L_7 : Cond.classLink RL 7 RX9 ∈ pz_TB := pz_at 81 (by decide +kernel) rfl
theorem wi_RX9 : Cond.instantiable RX9 12 ∈ pz_TB := pz_at 82 (by decide +kernel) rfl
theorem wn_RX9 : Cond.initialized RX9 ∈ pz_TB := pz_at 63 (by decide +kernel) rfl
theorem w85 : Cond.code yX9_init cX9_init 2 none ∈ pz_TB := pz_at 85 (by decide +kernel) rfl
theorem w83 : Cond.methodLink RL 9 yX9_init ∈ pz_TB := pz_at 83 (by decide +kernel) rfl
theorem w84 : Cond.instanceMethod yX9_init ∈ pz_TB := pz_at 84 (by decide +kernel) rfl
theorem wk_L_10 : Cond.classLink RL 10 RX10 ∈ pz_TB := pz_at 911 (by decide +kernel) rfl
theorem wi_RX10 : Cond.instantiable RX10 33 ∈ pz_TB := pz_at 912 (by decide +kernel) rfl
theorem wn_RX10 : Cond.initialized RX10 ∈ pz_TB := pz_at 71 (by decide +kernel) rfl
theorem w915 : Cond.code yX10_init cX10_init 2 none ∈ pz_TB := pz_at 915 (by decide +kernel) rfl
theorem w913 : Cond.methodLink RL 12 yX10_init ∈ pz_TB := pz_at 913 (by decide +kernel) rfl
theorem w914 : Cond.instanceMethod yX10_init ∈ pz_TB := pz_at 914 (by decide +kernel) rfl
theorem w325 : Cond.code yX9_eater cX9_eater 3 (some .int) ∈ pz_TB := pz_at 325 (by decide +kernel) rfl
theorem w322 : Cond.methodLink RL 13 yX9_eater ∈ pz_TB := pz_at 322 (by decide +kernel) rfl
theorem w323 : Cond.instanceMethod yX9_eater ∈ pz_TB := pz_at 323 (by decide +kernel) rfl
theorem w324 : Cond.selects RX9 yX9_eater yX9_eater ∈ pz_TB := pz_at 324 (by decide +kernel) rfl
theorem w1020 : Cond.code yX10_eater cX10_eater 3 (some .int) ∈ pz_TB := pz_at 1020 (by decide +kernel) rfl
theorem w1017 : Cond.methodLink RL 17 yX10_eater ∈ pz_TB := pz_at 1017 (by decide +kernel) rfl
theorem w1018 : Cond.instanceMethod yX10_eater ∈ pz_TB := pz_at 1018 (by decide +kernel) rfl
theorem w1019 : Cond.selects RX10 yX10_eater yX10_eater ∈ pz_TB := pz_at 1019 (by decide +kernel) rfl
theorem w345 : Cond.code yX9_told cX9_told 4 (some .int) ∈ pz_TB := pz_at 345 (by decide +kernel) rfl
theorem w342 : Cond.methodLink RL 18 yX9_told ∈ pz_TB := pz_at 342 (by decide +kernel) rfl
theorem w343 : Cond.instanceMethod yX9_told ∈ pz_TB := pz_at 343 (by decide +kernel) rfl
theorem w344 : Cond.selects RX9 yX9_told yX9_told ∈ pz_TB := pz_at 344 (by decide +kernel) rfl
theorem w1042 : Cond.code yX10_told cX10_told 3 (some .int) ∈ pz_TB := pz_at 1042 (by decide +kernel) rfl
theorem w1039 : Cond.methodLink RL 21 yX10_told ∈ pz_TB := pz_at 1039 (by decide +kernel) rfl
theorem w1040 : Cond.instanceMethod yX10_told ∈ pz_TB := pz_at 1040 (by decide +kernel) rfl
theorem w1041 : Cond.selects RX10 yX10_told yX10_told ∈ pz_TB := pz_at 1041 (by decide +kernel) rfl
theorem w369 : Cond.code yX9_cell cX9_cell 3 (some .int) ∈ pz_TB := pz_at 369 (by decide +kernel) rfl
theorem w366 : Cond.methodLink RL 22 yX9_cell ∈ pz_TB := pz_at 366 (by decide +kernel) rfl
theorem w367 : Cond.instanceMethod yX9_cell ∈ pz_TB := pz_at 367 (by decide +kernel) rfl
theorem w368 : Cond.selects RX9 yX9_cell yX9_cell ∈ pz_TB := pz_at 368 (by decide +kernel) rfl
theorem w1070 : Cond.code yX10_cell cX10_cell 3 (some .int) ∈ pz_TB := pz_at 1070 (by decide +kernel) rfl
theorem w1067 : Cond.methodLink RL 25 yX10_cell ∈ pz_TB := pz_at 1067 (by decide +kernel) rfl
theorem w1068 : Cond.instanceMethod yX10_cell ∈ pz_TB := pz_at 1068 (by decide +kernel) rfl
theorem w1069 : Cond.selects RX10 yX10_cell yX10_cell ∈ pz_TB := pz_at 1069 (by decide +kernel) rfl
theorem w381 : Cond.code yX9_lays cX9_lays 6 (some .int) ∈ pz_TB := pz_at 381 (by decide +kernel) rfl
theorem w378 : Cond.methodLink RL 26 yX9_lays ∈ pz_TB := pz_at 378 (by decide +kernel) rfl
theorem w379 : Cond.instanceMethod yX9_lays ∈ pz_TB := pz_at 379 (by decide +kernel) rfl
theorem w380 : Cond.selects RX9 yX9_lays yX9_lays ∈ pz_TB := pz_at 380 (by decide +kernel) rfl
theorem w1079 : Cond.code yX10_lays cX10_lays 4 (some .int) ∈ pz_TB := pz_at 1079 (by decide +kernel) rfl
theorem w1076 : Cond.methodLink RL 30 yX10_lays ∈ pz_TB := pz_at 1076 (by decide +kernel) rfl
theorem w1077 : Cond.instanceMethod yX10_lays ∈ pz_TB := pz_at 1077 (by decide +kernel) rfl
theorem w1078 : Cond.selects RX10 yX10_lays yX10_lays ∈ pz_TB := pz_at 1078 (by decide +kernel) rfl
theorem w387 : Cond.code yX9_as cX9_as 3 (some .int) ∈ pz_TB := pz_at 387 (by decide +kernel) rfl
theorem w384 : Cond.methodLink RL 31 yX9_as ∈ pz_TB := pz_at 384 (by decide +kernel) rfl
theorem w385 : Cond.instanceMethod yX9_as ∈ pz_TB := pz_at 385 (by decide +kernel) rfl
theorem w386 : Cond.selects RX9 yX9_as yX9_as ∈ pz_TB := pz_at 386 (by decide +kernel) rfl
theorem w1090 : Cond.code yX10_as cX10_as 3 (some .int) ∈ pz_TB := pz_at 1090 (by decide +kernel) rfl
theorem w1087 : Cond.methodLink RL 34 yX10_as ∈ pz_TB := pz_at 1087 (by decide +kernel) rfl
theorem w1088 : Cond.instanceMethod yX10_as ∈ pz_TB := pz_at 1088 (by decide +kernel) rfl
theorem w1089 : Cond.selects RX10 yX10_as yX10_as ∈ pz_TB := pz_at 1089 (by decide +kernel) rfl
theorem w398 : Cond.code yX9_turns cX9_turns 4 (some .int) ∈ pz_TB := pz_at 398 (by decide +kernel) rfl
theorem w395 : Cond.methodLink RL 35 yX9_turns ∈ pz_TB := pz_at 395 (by decide +kernel) rfl
theorem w396 : Cond.instanceMethod yX9_turns ∈ pz_TB := pz_at 396 (by decide +kernel) rfl
theorem w397 : Cond.selects RX9 yX9_turns yX9_turns ∈ pz_TB := pz_at 397 (by decide +kernel) rfl
theorem w1098 : Cond.code yX10_turns cX10_turns 3 (some .int) ∈ pz_TB := pz_at 1098 (by decide +kernel) rfl
theorem w1095 : Cond.methodLink RL 38 yX10_turns ∈ pz_TB := pz_at 1095 (by decide +kernel) rfl
theorem w1096 : Cond.instanceMethod yX10_turns ∈ pz_TB := pz_at 1096 (by decide +kernel) rfl
theorem w1097 : Cond.selects RX10 yX10_turns yX10_turns ∈ pz_TB := pz_at 1097 (by decide +kernel) rfl
theorem w402 : Cond.code yX9_sends cX9_sends 4 (some .int) ∈ pz_TB := pz_at 402 (by decide +kernel) rfl
theorem w399 : Cond.methodLink RL 39 yX9_sends ∈ pz_TB := pz_at 399 (by decide +kernel) rfl
theorem w400 : Cond.instanceMethod yX9_sends ∈ pz_TB := pz_at 400 (by decide +kernel) rfl
theorem w401 : Cond.selects RX9 yX9_sends yX9_sends ∈ pz_TB := pz_at 401 (by decide +kernel) rfl
theorem w1102 : Cond.code yX10_sends cX10_sends 3 (some .int) ∈ pz_TB := pz_at 1102 (by decide +kernel) rfl
theorem w1099 : Cond.methodLink RL 42 yX10_sends ∈ pz_TB := pz_at 1099 (by decide +kernel) rfl
theorem w1100 : Cond.instanceMethod yX10_sends ∈ pz_TB := pz_at 1100 (by decide +kernel) rfl
theorem w1101 : Cond.selects RX10 yX10_sends yX10_sends ∈ pz_TB := pz_at 1101 (by decide +kernel) rfl
theorem w406 : Cond.code yX9_cook cX9_cook 3 (some .int) ∈ pz_TB := pz_at 406 (by decide +kernel) rfl
theorem w403 : Cond.methodLink RL 43 yX9_cook ∈ pz_TB := pz_at 403 (by decide +kernel) rfl
theorem w404 : Cond.instanceMethod yX9_cook ∈ pz_TB := pz_at 404 (by decide +kernel) rfl
theorem w405 : Cond.selects RX9 yX9_cook yX9_cook ∈ pz_TB := pz_at 405 (by decide +kernel) rfl
theorem w1106 : Cond.code yX10_cook cX10_cook 2 (some .int) ∈ pz_TB := pz_at 1106 (by decide +kernel) rfl
theorem w1103 : Cond.methodLink RL 47 yX10_cook ∈ pz_TB := pz_at 1103 (by decide +kernel) rfl
theorem w1104 : Cond.instanceMethod yX10_cook ∈ pz_TB := pz_at 1104 (by decide +kernel) rfl
theorem w1105 : Cond.selects RX10 yX10_cook yX10_cook ∈ pz_TB := pz_at 1105 (by decide +kernel) rfl
theorem w410 : Cond.code yX9_say cX9_say 3 (some .int) ∈ pz_TB := pz_at 410 (by decide +kernel) rfl
theorem w407 : Cond.methodLink RL 48 yX9_say ∈ pz_TB := pz_at 407 (by decide +kernel) rfl
theorem w408 : Cond.instanceMethod yX9_say ∈ pz_TB := pz_at 408 (by decide +kernel) rfl
theorem w409 : Cond.selects RX9 yX9_say yX9_say ∈ pz_TB := pz_at 409 (by decide +kernel) rfl
theorem w1110 : Cond.code yX10_say cX10_say 3 (some .int) ∈ pz_TB := pz_at 1110 (by decide +kernel) rfl
theorem w1107 : Cond.methodLink RL 51 yX10_say ∈ pz_TB := pz_at 1107 (by decide +kernel) rfl
theorem w1108 : Cond.instanceMethod yX10_say ∈ pz_TB := pz_at 1108 (by decide +kernel) rfl
theorem w1109 : Cond.selects RX10 yX10_say yX10_say ∈ pz_TB := pz_at 1109 (by decide +kernel) rfl
theorem w420 : Cond.code yX9_rule cX9_rule 4 (some .int) ∈ pz_TB := pz_at 420 (by decide +kernel) rfl
theorem w417 : Cond.methodLink RL 52 yX9_rule ∈ pz_TB := pz_at 417 (by decide +kernel) rfl
theorem w418 : Cond.instanceMethod yX9_rule ∈ pz_TB := pz_at 418 (by decide +kernel) rfl
theorem w419 : Cond.selects RX9 yX9_rule yX9_rule ∈ pz_TB := pz_at 419 (by decide +kernel) rfl
theorem w1119 : Cond.code yX10_rule cX10_rule 3 (some .int) ∈ pz_TB := pz_at 1119 (by decide +kernel) rfl
theorem w1116 : Cond.methodLink RL 55 yX10_rule ∈ pz_TB := pz_at 1116 (by decide +kernel) rfl
theorem w1117 : Cond.instanceMethod yX10_rule ∈ pz_TB := pz_at 1117 (by decide +kernel) rfl
theorem w1118 : Cond.selects RX10 yX10_rule yX10_rule ∈ pz_TB := pz_at 1118 (by decide +kernel) rfl
theorem w424 : Cond.code yX9_deal cX9_deal 5 (some .int) ∈ pz_TB := pz_at 424 (by decide +kernel) rfl
theorem w421 : Cond.methodLink RL 56 yX9_deal ∈ pz_TB := pz_at 421 (by decide +kernel) rfl
theorem w422 : Cond.instanceMethod yX9_deal ∈ pz_TB := pz_at 422 (by decide +kernel) rfl
theorem w423 : Cond.selects RX9 yX9_deal yX9_deal ∈ pz_TB := pz_at 423 (by decide +kernel) rfl
theorem w1126 : Cond.code yX10_deal cX10_deal 4 (some .int) ∈ pz_TB := pz_at 1126 (by decide +kernel) rfl
theorem w1123 : Cond.methodLink RL 59 yX10_deal ∈ pz_TB := pz_at 1123 (by decide +kernel) rfl
theorem w1124 : Cond.instanceMethod yX10_deal ∈ pz_TB := pz_at 1124 (by decide +kernel) rfl
theorem w1125 : Cond.selects RX10 yX10_deal yX10_deal ∈ pz_TB := pz_at 1125 (by decide +kernel) rfl
theorem w433 : Cond.code yX9_seed cX9_seed 3 (some .int) ∈ pz_TB := pz_at 433 (by decide +kernel) rfl
theorem w430 : Cond.methodLink RL 60 yX9_seed ∈ pz_TB := pz_at 430 (by decide +kernel) rfl
theorem w431 : Cond.instanceMethod yX9_seed ∈ pz_TB := pz_at 431 (by decide +kernel) rfl
theorem w432 : Cond.selects RX9 yX9_seed yX9_seed ∈ pz_TB := pz_at 432 (by decide +kernel) rfl
theorem w1136 : Cond.code yX10_seed cX10_seed 2 (some .int) ∈ pz_TB := pz_at 1136 (by decide +kernel) rfl
theorem w1133 : Cond.methodLink RL 63 yX10_seed ∈ pz_TB := pz_at 1133 (by decide +kernel) rfl
theorem w1134 : Cond.instanceMethod yX10_seed ∈ pz_TB := pz_at 1134 (by decide +kernel) rfl
theorem w1135 : Cond.selects RX10 yX10_seed yX10_seed ∈ pz_TB := pz_at 1135 (by decide +kernel) rfl
theorem w437 : Cond.code yX9_minutes cX9_minutes 3 (some .int) ∈ pz_TB := pz_at 437 (by decide +kernel) rfl
theorem w434 : Cond.methodLink RL 64 yX9_minutes ∈ pz_TB := pz_at 434 (by decide +kernel) rfl
theorem w435 : Cond.instanceMethod yX9_minutes ∈ pz_TB := pz_at 435 (by decide +kernel) rfl
theorem w436 : Cond.selects RX9 yX9_minutes yX9_minutes ∈ pz_TB := pz_at 436 (by decide +kernel) rfl
theorem w1140 : Cond.code yX10_minutes cX10_minutes 4 (some .int) ∈ pz_TB := pz_at 1140 (by decide +kernel) rfl
theorem w1137 : Cond.methodLink RL 67 yX10_minutes ∈ pz_TB := pz_at 1137 (by decide +kernel) rfl
theorem w1138 : Cond.instanceMethod yX10_minutes ∈ pz_TB := pz_at 1138 (by decide +kernel) rfl
theorem w1139 : Cond.selects RX10 yX10_minutes yX10_minutes ∈ pz_TB := pz_at 1139 (by decide +kernel) rfl
theorem w508 : Cond.code yX9_town cX9_town 2 (some .int) ∈ pz_TB := pz_at 508 (by decide +kernel) rfl
theorem w505 : Cond.methodLink RL 68 yX9_town ∈ pz_TB := pz_at 505 (by decide +kernel) rfl
theorem w506 : Cond.instanceMethod yX9_town ∈ pz_TB := pz_at 506 (by decide +kernel) rfl
theorem w507 : Cond.selects RX9 yX9_town yX9_town ∈ pz_TB := pz_at 507 (by decide +kernel) rfl
theorem w1179 : Cond.code yX10_town cX10_town 2 (some .int) ∈ pz_TB := pz_at 1179 (by decide +kernel) rfl
theorem w1176 : Cond.methodLink RL 71 yX10_town ∈ pz_TB := pz_at 1176 (by decide +kernel) rfl
theorem w1177 : Cond.instanceMethod yX10_town ∈ pz_TB := pz_at 1177 (by decide +kernel) rfl
theorem w1178 : Cond.selects RX10 yX10_town yX10_town ∈ pz_TB := pz_at 1178 (by decide +kernel) rfl
theorem w521 : Cond.code yX9_path cX9_path 4 (some .int) ∈ pz_TB := pz_at 521 (by decide +kernel) rfl
theorem w518 : Cond.methodLink RL 72 yX9_path ∈ pz_TB := pz_at 518 (by decide +kernel) rfl
theorem w519 : Cond.instanceMethod yX9_path ∈ pz_TB := pz_at 519 (by decide +kernel) rfl
theorem w520 : Cond.selects RX9 yX9_path yX9_path ∈ pz_TB := pz_at 520 (by decide +kernel) rfl
theorem w1195 : Cond.code yX10_path cX10_path 8 (some .int) ∈ pz_TB := pz_at 1195 (by decide +kernel) rfl
theorem w1192 : Cond.methodLink RL 75 yX10_path ∈ pz_TB := pz_at 1192 (by decide +kernel) rfl
theorem w1193 : Cond.instanceMethod yX10_path ∈ pz_TB := pz_at 1193 (by decide +kernel) rfl
theorem w1194 : Cond.selects RX10 yX10_path yX10_path ∈ pz_TB := pz_at 1194 (by decide +kernel) rfl
theorem w531 : Cond.code yX9_behind cX9_behind 3 (some .int) ∈ pz_TB := pz_at 531 (by decide +kernel) rfl
theorem w528 : Cond.methodLink RL 76 yX9_behind ∈ pz_TB := pz_at 528 (by decide +kernel) rfl
theorem w529 : Cond.instanceMethod yX9_behind ∈ pz_TB := pz_at 529 (by decide +kernel) rfl
theorem w530 : Cond.selects RX9 yX9_behind yX9_behind ∈ pz_TB := pz_at 530 (by decide +kernel) rfl
theorem w1204 : Cond.code yX10_behind cX10_behind 4 (some .int) ∈ pz_TB := pz_at 1204 (by decide +kernel) rfl
theorem w1201 : Cond.methodLink RL 79 yX10_behind ∈ pz_TB := pz_at 1201 (by decide +kernel) rfl
theorem w1202 : Cond.instanceMethod yX10_behind ∈ pz_TB := pz_at 1202 (by decide +kernel) rfl
theorem w1203 : Cond.selects RX10 yX10_behind yX10_behind ∈ pz_TB := pz_at 1203 (by decide +kernel) rfl
theorem w542 : Cond.code yX9_wets cX9_wets 3 (some .int) ∈ pz_TB := pz_at 542 (by decide +kernel) rfl
theorem w539 : Cond.methodLink RL 80 yX9_wets ∈ pz_TB := pz_at 539 (by decide +kernel) rfl
theorem w540 : Cond.instanceMethod yX9_wets ∈ pz_TB := pz_at 540 (by decide +kernel) rfl
theorem w541 : Cond.selects RX9 yX9_wets yX9_wets ∈ pz_TB := pz_at 541 (by decide +kernel) rfl
theorem w1221 : Cond.code yX10_wets cX10_wets 4 (some .int) ∈ pz_TB := pz_at 1221 (by decide +kernel) rfl
theorem w1218 : Cond.methodLink RL 83 yX10_wets ∈ pz_TB := pz_at 1218 (by decide +kernel) rfl
theorem w1219 : Cond.instanceMethod yX10_wets ∈ pz_TB := pz_at 1219 (by decide +kernel) rfl
theorem w1220 : Cond.selects RX10 yX10_wets yX10_wets ∈ pz_TB := pz_at 1220 (by decide +kernel) rfl
theorem w548 : Cond.code yX9_deepest cX9_deepest 5 (some .int) ∈ pz_TB := pz_at 548 (by decide +kernel) rfl
theorem w545 : Cond.methodLink RL 84 yX9_deepest ∈ pz_TB := pz_at 545 (by decide +kernel) rfl
theorem w546 : Cond.instanceMethod yX9_deepest ∈ pz_TB := pz_at 546 (by decide +kernel) rfl
theorem w547 : Cond.selects RX9 yX9_deepest yX9_deepest ∈ pz_TB := pz_at 547 (by decide +kernel) rfl
theorem w1225 : Cond.code yX10_deepest cX10_deepest 5 (some .int) ∈ pz_TB := pz_at 1225 (by decide +kernel) rfl
theorem w1222 : Cond.methodLink RL 87 yX10_deepest ∈ pz_TB := pz_at 1222 (by decide +kernel) rfl
theorem w1223 : Cond.instanceMethod yX10_deepest ∈ pz_TB := pz_at 1223 (by decide +kernel) rfl
theorem w1224 : Cond.selects RX10 yX10_deepest yX10_deepest ∈ pz_TB := pz_at 1224 (by decide +kernel) rfl
theorem w552 : Cond.code yX9_walled cX9_walled 7 (some .int) ∈ pz_TB := pz_at 552 (by decide +kernel) rfl
theorem w549 : Cond.methodLink RL 88 yX9_walled ∈ pz_TB := pz_at 549 (by decide +kernel) rfl
theorem w550 : Cond.instanceMethod yX9_walled ∈ pz_TB := pz_at 550 (by decide +kernel) rfl
theorem w551 : Cond.selects RX9 yX9_walled yX9_walled ∈ pz_TB := pz_at 551 (by decide +kernel) rfl
theorem w1229 : Cond.code yX10_walled cX10_walled 8 (some .int) ∈ pz_TB := pz_at 1229 (by decide +kernel) rfl
theorem w1226 : Cond.methodLink RL 91 yX10_walled ∈ pz_TB := pz_at 1226 (by decide +kernel) rfl
theorem w1227 : Cond.instanceMethod yX10_walled ∈ pz_TB := pz_at 1227 (by decide +kernel) rfl
theorem w1228 : Cond.selects RX10 yX10_walled yX10_walled ∈ pz_TB := pz_at 1228 (by decide +kernel) rfl
theorem w557 : Cond.code yX9_enough cX9_enough 5 (some .int) ∈ pz_TB := pz_at 557 (by decide +kernel) rfl
theorem w554 : Cond.methodLink RL 92 yX9_enough ∈ pz_TB := pz_at 554 (by decide +kernel) rfl
theorem w555 : Cond.instanceMethod yX9_enough ∈ pz_TB := pz_at 555 (by decide +kernel) rfl
theorem w556 : Cond.selects RX9 yX9_enough yX9_enough ∈ pz_TB := pz_at 556 (by decide +kernel) rfl
theorem w1233 : Cond.code yX10_enough cX10_enough 5 (some .int) ∈ pz_TB := pz_at 1233 (by decide +kernel) rfl
theorem w1230 : Cond.methodLink RL 95 yX10_enough ∈ pz_TB := pz_at 1230 (by decide +kernel) rfl
theorem w1231 : Cond.instanceMethod yX10_enough ∈ pz_TB := pz_at 1231 (by decide +kernel) rfl
theorem w1232 : Cond.selects RX10 yX10_enough yX10_enough ∈ pz_TB := pz_at 1232 (by decide +kernel) rfl
theorem w561 : Cond.code yX9_stood cX9_stood 8 (some .int) ∈ pz_TB := pz_at 561 (by decide +kernel) rfl
theorem w558 : Cond.methodLink RL 96 yX9_stood ∈ pz_TB := pz_at 558 (by decide +kernel) rfl
theorem w559 : Cond.instanceMethod yX9_stood ∈ pz_TB := pz_at 559 (by decide +kernel) rfl
theorem w560 : Cond.selects RX9 yX9_stood yX9_stood ∈ pz_TB := pz_at 560 (by decide +kernel) rfl
theorem w1358 : Cond.code yX10_stood cX10_stood 10 (some .int) ∈ pz_TB := pz_at 1358 (by decide +kernel) rfl
theorem w1355 : Cond.methodLink RL 99 yX10_stood ∈ pz_TB := pz_at 1355 (by decide +kernel) rfl
theorem w1356 : Cond.instanceMethod yX10_stood ∈ pz_TB := pz_at 1356 (by decide +kernel) rfl
theorem w1357 : Cond.selects RX10 yX10_stood yX10_stood ∈ pz_TB := pz_at 1357 (by decide +kernel) rfl
theorem w585 : Cond.code yX9_fee cX9_fee 3 (some .int) ∈ pz_TB := pz_at 585 (by decide +kernel) rfl
theorem w582 : Cond.methodLink RL 100 yX9_fee ∈ pz_TB := pz_at 582 (by decide +kernel) rfl
theorem w583 : Cond.instanceMethod yX9_fee ∈ pz_TB := pz_at 583 (by decide +kernel) rfl
theorem w584 : Cond.selects RX9 yX9_fee yX9_fee ∈ pz_TB := pz_at 584 (by decide +kernel) rfl
theorem w1238 : Cond.code yX10_fee cX10_fee 2 (some .int) ∈ pz_TB := pz_at 1238 (by decide +kernel) rfl
theorem w1235 : Cond.methodLink RL 104 yX10_fee ∈ pz_TB := pz_at 1235 (by decide +kernel) rfl
theorem w1236 : Cond.instanceMethod yX10_fee ∈ pz_TB := pz_at 1236 (by decide +kernel) rfl
theorem w1237 : Cond.selects RX10 yX10_fee yX10_fee ∈ pz_TB := pz_at 1237 (by decide +kernel) rfl
theorem w591 : Cond.code yX9_fine cX9_fine 4 (some .int) ∈ pz_TB := pz_at 591 (by decide +kernel) rfl
theorem w588 : Cond.methodLink RL 105 yX9_fine ∈ pz_TB := pz_at 588 (by decide +kernel) rfl
theorem w589 : Cond.instanceMethod yX9_fine ∈ pz_TB := pz_at 589 (by decide +kernel) rfl
theorem w590 : Cond.selects RX9 yX9_fine yX9_fine ∈ pz_TB := pz_at 590 (by decide +kernel) rfl
theorem w1242 : Cond.code yX10_fine cX10_fine 3 (some .int) ∈ pz_TB := pz_at 1242 (by decide +kernel) rfl
theorem w1239 : Cond.methodLink RL 108 yX10_fine ∈ pz_TB := pz_at 1239 (by decide +kernel) rfl
theorem w1240 : Cond.instanceMethod yX10_fine ∈ pz_TB := pz_at 1240 (by decide +kernel) rfl
theorem w1241 : Cond.selects RX10 yX10_fine yX10_fine ∈ pz_TB := pz_at 1241 (by decide +kernel) rfl
theorem w595 : Cond.code yX9_feed cX9_feed 4 (some .int) ∈ pz_TB := pz_at 595 (by decide +kernel) rfl
theorem w592 : Cond.methodLink RL 109 yX9_feed ∈ pz_TB := pz_at 592 (by decide +kernel) rfl
theorem w593 : Cond.instanceMethod yX9_feed ∈ pz_TB := pz_at 593 (by decide +kernel) rfl
theorem w594 : Cond.selects RX9 yX9_feed yX9_feed ∈ pz_TB := pz_at 594 (by decide +kernel) rfl
theorem w1246 : Cond.code yX10_feed cX10_feed 6 (some .int) ∈ pz_TB := pz_at 1246 (by decide +kernel) rfl
theorem w1243 : Cond.methodLink RL 112 yX10_feed ∈ pz_TB := pz_at 1243 (by decide +kernel) rfl
theorem w1244 : Cond.instanceMethod yX10_feed ∈ pz_TB := pz_at 1244 (by decide +kernel) rfl
theorem w1245 : Cond.selects RX10 yX10_feed yX10_feed ∈ pz_TB := pz_at 1245 (by decide +kernel) rfl
theorem w603 : Cond.code yX9_trim cX9_trim 2 (some .int) ∈ pz_TB := pz_at 603 (by decide +kernel) rfl
theorem w600 : Cond.methodLink RL 113 yX9_trim ∈ pz_TB := pz_at 600 (by decide +kernel) rfl
theorem w601 : Cond.instanceMethod yX9_trim ∈ pz_TB := pz_at 601 (by decide +kernel) rfl
theorem w602 : Cond.selects RX9 yX9_trim yX9_trim ∈ pz_TB := pz_at 602 (by decide +kernel) rfl
theorem w1250 : Cond.code yX10_trim cX10_trim 2 (some .int) ∈ pz_TB := pz_at 1250 (by decide +kernel) rfl
theorem w1247 : Cond.methodLink RL 116 yX10_trim ∈ pz_TB := pz_at 1247 (by decide +kernel) rfl
theorem w1248 : Cond.instanceMethod yX10_trim ∈ pz_TB := pz_at 1248 (by decide +kernel) rfl
theorem w1249 : Cond.selects RX10 yX10_trim yX10_trim ∈ pz_TB := pz_at 1249 (by decide +kernel) rfl
theorem w607 : Cond.code yX9_text cX9_text 2 (some .int) ∈ pz_TB := pz_at 607 (by decide +kernel) rfl
theorem w604 : Cond.methodLink RL 117 yX9_text ∈ pz_TB := pz_at 604 (by decide +kernel) rfl
theorem w605 : Cond.instanceMethod yX9_text ∈ pz_TB := pz_at 605 (by decide +kernel) rfl
theorem w606 : Cond.selects RX9 yX9_text yX9_text ∈ pz_TB := pz_at 606 (by decide +kernel) rfl
theorem w1254 : Cond.code yX10_text cX10_text 3 (some .int) ∈ pz_TB := pz_at 1254 (by decide +kernel) rfl
theorem w1251 : Cond.methodLink RL 120 yX10_text ∈ pz_TB := pz_at 1251 (by decide +kernel) rfl
theorem w1252 : Cond.instanceMethod yX10_text ∈ pz_TB := pz_at 1252 (by decide +kernel) rfl
theorem w1253 : Cond.selects RX10 yX10_text yX10_text ∈ pz_TB := pz_at 1253 (by decide +kernel) rfl
theorem w802 : Cond.code yX9_textTold cX9_textTold 4 (some .int) ∈ pz_TB := pz_at 802 (by decide +kernel) rfl
theorem w799 : Cond.methodLink RL 121 yX9_textTold ∈ pz_TB := pz_at 799 (by decide +kernel) rfl
theorem w800 : Cond.instanceMethod yX9_textTold ∈ pz_TB := pz_at 800 (by decide +kernel) rfl
theorem w801 : Cond.selects RX9 yX9_textTold yX9_textTold ∈ pz_TB := pz_at 801 (by decide +kernel) rfl
theorem w1321 : Cond.code yX10_textTold cX10_textTold 3 (some .int) ∈ pz_TB := pz_at 1321 (by decide +kernel) rfl
theorem w1318 : Cond.methodLink RL 124 yX10_textTold ∈ pz_TB := pz_at 1318 (by decide +kernel) rfl
theorem w1319 : Cond.instanceMethod yX10_textTold ∈ pz_TB := pz_at 1319 (by decide +kernel) rfl
theorem w1320 : Cond.selects RX10 yX10_textTold yX10_textTold ∈ pz_TB := pz_at 1320 (by decide +kernel) rfl
theorem w807 : Cond.code yX9_why cX9_why 3 (some .int) ∈ pz_TB := pz_at 807 (by decide +kernel) rfl
theorem w804 : Cond.methodLink RL 125 yX9_why ∈ pz_TB := pz_at 804 (by decide +kernel) rfl
theorem w805 : Cond.instanceMethod yX9_why ∈ pz_TB := pz_at 805 (by decide +kernel) rfl
theorem w806 : Cond.selects RX9 yX9_why yX9_why ∈ pz_TB := pz_at 806 (by decide +kernel) rfl
theorem w1329 : Cond.code yX10_why cX10_why 2 (some .int) ∈ pz_TB := pz_at 1329 (by decide +kernel) rfl
theorem w1326 : Cond.methodLink RL 128 yX10_why ∈ pz_TB := pz_at 1326 (by decide +kernel) rfl
theorem w1327 : Cond.instanceMethod yX10_why ∈ pz_TB := pz_at 1327 (by decide +kernel) rfl
theorem w1328 : Cond.selects RX10 yX10_why yX10_why ∈ pz_TB := pz_at 1328 (by decide +kernel) rfl
theorem w812 : Cond.code yX9_sheet cX9_sheet 4 (some .int) ∈ pz_TB := pz_at 812 (by decide +kernel) rfl
theorem w809 : Cond.methodLink RL 129 yX9_sheet ∈ pz_TB := pz_at 809 (by decide +kernel) rfl
theorem w810 : Cond.instanceMethod yX9_sheet ∈ pz_TB := pz_at 810 (by decide +kernel) rfl
theorem w811 : Cond.selects RX9 yX9_sheet yX9_sheet ∈ pz_TB := pz_at 811 (by decide +kernel) rfl
theorem w1333 : Cond.code yX10_sheet cX10_sheet 5 (some .int) ∈ pz_TB := pz_at 1333 (by decide +kernel) rfl
theorem w1330 : Cond.methodLink RL 132 yX10_sheet ∈ pz_TB := pz_at 1330 (by decide +kernel) rfl
theorem w1331 : Cond.instanceMethod yX10_sheet ∈ pz_TB := pz_at 1331 (by decide +kernel) rfl
theorem w1332 : Cond.selects RX10 yX10_sheet yX10_sheet ∈ pz_TB := pz_at 1332 (by decide +kernel) rfl
theorem w821 : Cond.code yX9_mark cX9_mark 5 (some .int) ∈ pz_TB := pz_at 821 (by decide +kernel) rfl
theorem w818 : Cond.methodLink RL 133 yX9_mark ∈ pz_TB := pz_at 818 (by decide +kernel) rfl
theorem w819 : Cond.instanceMethod yX9_mark ∈ pz_TB := pz_at 819 (by decide +kernel) rfl
theorem w820 : Cond.selects RX9 yX9_mark yX9_mark ∈ pz_TB := pz_at 820 (by decide +kernel) rfl
theorem w1342 : Cond.code yX10_mark cX10_mark 4 (some .int) ∈ pz_TB := pz_at 1342 (by decide +kernel) rfl
theorem w1339 : Cond.methodLink RL 136 yX10_mark ∈ pz_TB := pz_at 1339 (by decide +kernel) rfl
theorem w1340 : Cond.instanceMethod yX10_mark ∈ pz_TB := pz_at 1340 (by decide +kernel) rfl
theorem w1341 : Cond.selects RX10 yX10_mark yX10_mark ∈ pz_TB := pz_at 1341 (by decide +kernel) rfl
theorem w833 : Cond.code yX9_pour cX9_pour 2 (some .int) ∈ pz_TB := pz_at 833 (by decide +kernel) rfl
theorem w830 : Cond.methodLink RL 137 yX9_pour ∈ pz_TB := pz_at 830 (by decide +kernel) rfl
theorem w831 : Cond.instanceMethod yX9_pour ∈ pz_TB := pz_at 831 (by decide +kernel) rfl
theorem w832 : Cond.selects RX9 yX9_pour yX9_pour ∈ pz_TB := pz_at 832 (by decide +kernel) rfl
theorem w1350 : Cond.code yX10_pour cX10_pour 6 (some .int) ∈ pz_TB := pz_at 1350 (by decide +kernel) rfl
theorem w1347 : Cond.methodLink RL 140 yX10_pour ∈ pz_TB := pz_at 1347 (by decide +kernel) rfl
theorem w1348 : Cond.instanceMethod yX10_pour ∈ pz_TB := pz_at 1348 (by decide +kernel) rfl
theorem w1349 : Cond.selects RX10 yX10_pour yX10_pour ∈ pz_TB := pz_at 1349 (by decide +kernel) rfl
theorem w844 : Cond.code yX9_reads cX9_reads 2 (some .int) ∈ pz_TB := pz_at 844 (by decide +kernel) rfl
theorem w841 : Cond.methodLink RL 141 yX9_reads ∈ pz_TB := pz_at 841 (by decide +kernel) rfl
theorem w842 : Cond.instanceMethod yX9_reads ∈ pz_TB := pz_at 842 (by decide +kernel) rfl
theorem w843 : Cond.selects RX9 yX9_reads yX9_reads ∈ pz_TB := pz_at 843 (by decide +kernel) rfl
theorem w1354 : Cond.code yX10_reads cX10_reads 4 (some .int) ∈ pz_TB := pz_at 1354 (by decide +kernel) rfl
theorem w1351 : Cond.methodLink RL 144 yX10_reads ∈ pz_TB := pz_at 1351 (by decide +kernel) rfl
theorem w1352 : Cond.instanceMethod yX10_reads ∈ pz_TB := pz_at 1352 (by decide +kernel) rfl
theorem w1353 : Cond.selects RX10 yX10_reads yX10_reads ∈ pz_TB := pz_at 1353 (by decide +kernel) rfl
theorem w852 : Cond.code yX9_copy cX9_copy 8 (some .int) ∈ pz_TB := pz_at 852 (by decide +kernel) rfl
theorem w849 : Cond.methodLink RL 145 yX9_copy ∈ pz_TB := pz_at 849 (by decide +kernel) rfl
theorem w850 : Cond.instanceMethod yX9_copy ∈ pz_TB := pz_at 850 (by decide +kernel) rfl
theorem w851 : Cond.selects RX9 yX9_copy yX9_copy ∈ pz_TB := pz_at 851 (by decide +kernel) rfl
theorem w1365 : Cond.code yX10_copy cX10_copy 7 (some .int) ∈ pz_TB := pz_at 1365 (by decide +kernel) rfl
theorem w1362 : Cond.methodLink RL 149 yX10_copy ∈ pz_TB := pz_at 1362 (by decide +kernel) rfl
theorem w1363 : Cond.instanceMethod yX10_copy ∈ pz_TB := pz_at 1363 (by decide +kernel) rfl
theorem w1364 : Cond.selects RX10 yX10_copy yX10_copy ∈ pz_TB := pz_at 1364 (by decide +kernel) rfl
theorem w861 : Cond.code yX9_lay cX9_lay 6 (some .int) ∈ pz_TB := pz_at 861 (by decide +kernel) rfl
theorem w858 : Cond.methodLink RL 150 yX9_lay ∈ pz_TB := pz_at 858 (by decide +kernel) rfl
theorem w859 : Cond.instanceMethod yX9_lay ∈ pz_TB := pz_at 859 (by decide +kernel) rfl
theorem w860 : Cond.selects RX9 yX9_lay yX9_lay ∈ pz_TB := pz_at 860 (by decide +kernel) rfl
theorem w1369 : Cond.code yX10_lay cX10_lay 7 (some .int) ∈ pz_TB := pz_at 1369 (by decide +kernel) rfl
theorem w1366 : Cond.methodLink RL 153 yX10_lay ∈ pz_TB := pz_at 1366 (by decide +kernel) rfl
theorem w1367 : Cond.instanceMethod yX10_lay ∈ pz_TB := pz_at 1367 (by decide +kernel) rfl
theorem w1368 : Cond.selects RX10 yX10_lay yX10_lay ∈ pz_TB := pz_at 1368 (by decide +kernel) rfl
theorem w873 : Cond.code yX9_ask cX9_ask 5 (some .int) ∈ pz_TB := pz_at 873 (by decide +kernel) rfl
theorem w870 : Cond.methodLink RL 154 yX9_ask ∈ pz_TB := pz_at 870 (by decide +kernel) rfl
theorem w871 : Cond.instanceMethod yX9_ask ∈ pz_TB := pz_at 871 (by decide +kernel) rfl
theorem w872 : Cond.selects RX9 yX9_ask yX9_ask ∈ pz_TB := pz_at 872 (by decide +kernel) rfl
theorem w1377 : Cond.code yX10_ask cX10_ask 3 (some .int) ∈ pz_TB := pz_at 1377 (by decide +kernel) rfl
theorem w1374 : Cond.methodLink RL 157 yX10_ask ∈ pz_TB := pz_at 1374 (by decide +kernel) rfl
theorem w1375 : Cond.instanceMethod yX10_ask ∈ pz_TB := pz_at 1375 (by decide +kernel) rfl
theorem w1376 : Cond.selects RX10 yX10_ask yX10_ask ∈ pz_TB := pz_at 1376 (by decide +kernel) rfl
theorem w881 : Cond.code yX9_item cX9_item 5 (some .int) ∈ pz_TB := pz_at 881 (by decide +kernel) rfl
theorem w878 : Cond.methodLink RL 158 yX9_item ∈ pz_TB := pz_at 878 (by decide +kernel) rfl
theorem w879 : Cond.instanceMethod yX9_item ∈ pz_TB := pz_at 879 (by decide +kernel) rfl
theorem w880 : Cond.selects RX9 yX9_item yX9_item ∈ pz_TB := pz_at 880 (by decide +kernel) rfl
theorem w1381 : Cond.code yX10_item cX10_item 4 (some .int) ∈ pz_TB := pz_at 1381 (by decide +kernel) rfl
theorem w1378 : Cond.methodLink RL 161 yX10_item ∈ pz_TB := pz_at 1378 (by decide +kernel) rfl
theorem w1379 : Cond.instanceMethod yX10_item ∈ pz_TB := pz_at 1379 (by decide +kernel) rfl
theorem w1380 : Cond.selects RX10 yX10_item yX10_item ∈ pz_TB := pz_at 1380 (by decide +kernel) rfl
theorem w886 : Cond.code yX9_rest cX9_rest 4 (some .int) ∈ pz_TB := pz_at 886 (by decide +kernel) rfl
theorem w883 : Cond.methodLink RL 162 yX9_rest ∈ pz_TB := pz_at 883 (by decide +kernel) rfl
theorem w884 : Cond.instanceMethod yX9_rest ∈ pz_TB := pz_at 884 (by decide +kernel) rfl
theorem w885 : Cond.selects RX9 yX9_rest yX9_rest ∈ pz_TB := pz_at 885 (by decide +kernel) rfl
theorem w1385 : Cond.code yX10_rest cX10_rest 3 (some .int) ∈ pz_TB := pz_at 1385 (by decide +kernel) rfl
theorem w1382 : Cond.methodLink RL 165 yX10_rest ∈ pz_TB := pz_at 1382 (by decide +kernel) rfl
theorem w1383 : Cond.instanceMethod yX10_rest ∈ pz_TB := pz_at 1383 (by decide +kernel) rfl
theorem w1384 : Cond.selects RX10 yX10_rest yX10_rest ∈ pz_TB := pz_at 1384 (by decide +kernel) rfl
theorem w890 : Cond.code yX9_tell cX9_tell 2 (some .int) ∈ pz_TB := pz_at 890 (by decide +kernel) rfl
theorem w887 : Cond.methodLink RL 166 yX9_tell ∈ pz_TB := pz_at 887 (by decide +kernel) rfl
theorem w888 : Cond.instanceMethod yX9_tell ∈ pz_TB := pz_at 888 (by decide +kernel) rfl
theorem w889 : Cond.selects RX9 yX9_tell yX9_tell ∈ pz_TB := pz_at 889 (by decide +kernel) rfl
theorem w1389 : Cond.code yX10_tell cX10_tell 2 (some .int) ∈ pz_TB := pz_at 1389 (by decide +kernel) rfl
theorem w1386 : Cond.methodLink RL 169 yX10_tell ∈ pz_TB := pz_at 1386 (by decide +kernel) rfl
theorem w1387 : Cond.instanceMethod yX10_tell ∈ pz_TB := pz_at 1387 (by decide +kernel) rfl
theorem w1388 : Cond.selects RX10 yX10_tell yX10_tell ∈ pz_TB := pz_at 1388 (by decide +kernel) rfl
theorem w894 : Cond.code yX9_check cX9_check 5 (some .int) ∈ pz_TB := pz_at 894 (by decide +kernel) rfl
theorem w891 : Cond.methodLink RL 170 yX9_check ∈ pz_TB := pz_at 891 (by decide +kernel) rfl
theorem w892 : Cond.instanceMethod yX9_check ∈ pz_TB := pz_at 892 (by decide +kernel) rfl
theorem w893 : Cond.selects RX9 yX9_check yX9_check ∈ pz_TB := pz_at 893 (by decide +kernel) rfl
theorem w1393 : Cond.code yX10_check cX10_check 5 (some .int) ∈ pz_TB := pz_at 1393 (by decide +kernel) rfl
theorem w1390 : Cond.methodLink RL 173 yX10_check ∈ pz_TB := pz_at 1390 (by decide +kernel) rfl
theorem w1391 : Cond.instanceMethod yX10_check ∈ pz_TB := pz_at 1391 (by decide +kernel) rfl
theorem w1392 : Cond.selects RX10 yX10_check yX10_check ∈ pz_TB := pz_at 1392 (by decide +kernel) rfl
theorem w902 : Cond.code yX9_keep cX9_keep 1 (some .int) ∈ pz_TB := pz_at 902 (by decide +kernel) rfl
theorem w899 : Cond.methodLink RL 174 yX9_keep ∈ pz_TB := pz_at 899 (by decide +kernel) rfl
theorem w900 : Cond.instanceMethod yX9_keep ∈ pz_TB := pz_at 900 (by decide +kernel) rfl
theorem w901 : Cond.selects RX9 yX9_keep yX9_keep ∈ pz_TB := pz_at 901 (by decide +kernel) rfl
theorem w1402 : Cond.code yX10_keep cX10_keep 1 (some .int) ∈ pz_TB := pz_at 1402 (by decide +kernel) rfl
theorem w1399 : Cond.methodLink RL 177 yX10_keep ∈ pz_TB := pz_at 1399 (by decide +kernel) rfl
theorem w1400 : Cond.instanceMethod yX10_keep ∈ pz_TB := pz_at 1400 (by decide +kernel) rfl
theorem w1401 : Cond.selects RX10 yX10_keep yX10_keep ∈ pz_TB := pz_at 1401 (by decide +kernel) rfl
theorem w906 : Cond.code yX9_back cX9_back 1 (some .int) ∈ pz_TB := pz_at 906 (by decide +kernel) rfl
theorem w903 : Cond.methodLink RL 178 yX9_back ∈ pz_TB := pz_at 903 (by decide +kernel) rfl
theorem w904 : Cond.instanceMethod yX9_back ∈ pz_TB := pz_at 904 (by decide +kernel) rfl
theorem w905 : Cond.selects RX9 yX9_back yX9_back ∈ pz_TB := pz_at 905 (by decide +kernel) rfl
theorem w1406 : Cond.code yX10_back cX10_back 1 (some .int) ∈ pz_TB := pz_at 1406 (by decide +kernel) rfl
theorem w1403 : Cond.methodLink RL 181 yX10_back ∈ pz_TB := pz_at 1403 (by decide +kernel) rfl
theorem w1404 : Cond.instanceMethod yX10_back ∈ pz_TB := pz_at 1404 (by decide +kernel) rfl
theorem w1405 : Cond.selects RX10 yX10_back yX10_back ∈ pz_TB := pz_at 1405 (by decide +kernel) rfl
theorem w910 : Cond.code yX9_count cX9_count 2 (some .int) ∈ pz_TB := pz_at 910 (by decide +kernel) rfl
theorem w907 : Cond.methodLink RL 182 yX9_count ∈ pz_TB := pz_at 907 (by decide +kernel) rfl
theorem w908 : Cond.instanceMethod yX9_count ∈ pz_TB := pz_at 908 (by decide +kernel) rfl
theorem w909 : Cond.selects RX9 yX9_count yX9_count ∈ pz_TB := pz_at 909 (by decide +kernel) rfl
theorem w1410 : Cond.code yX10_count cX10_count 2 (some .int) ∈ pz_TB := pz_at 1410 (by decide +kernel) rfl
theorem w1407 : Cond.methodLink RL 185 yX10_count ∈ pz_TB := pz_at 1407 (by decide +kernel) rfl
theorem w1408 : Cond.instanceMethod yX10_count ∈ pz_TB := pz_at 1408 (by decide +kernel) rfl
theorem w1409 : Cond.selects RX10 yX10_count yX10_count ∈ pz_TB := pz_at 1409 (by decide +kernel) rfl
theorem w651 : Cond.code yJ0_isLatin1_aae02 cJ0_isLatin1_aae02 1 (some .boolean) ∈ pz_TB := pz_at 651 (by decide +kernel) rfl
theorem w648 : Cond.methodLink RJ0 492 yJ0_isLatin1_aae02 ∈ pz_TB := pz_at 648 (by decide +kernel) rfl
theorem w649 : Cond.instanceMethod yJ0_isLatin1_aae02 ∈ pz_TB := pz_at 649 (by decide +kernel) rfl
theorem w650 : Cond.selects RJ0 yJ0_isLatin1_aae02 yJ0_isLatin1_aae02 ∈ pz_TB := pz_at 650 (by decide +kernel) rfl
theorem wf_J0_9 : Cond.fieldLink RJ0 9 "java/lang/String" "value" "[B" ∈ pz_TB := pz_at 1411 (by decide +kernel) rfl
theorem w654 : Cond.code yJ1_charAt_3b067 cJ1_charAt_3b067 2 (some .char) ∈ pz_TB := pz_at 654 (by decide +kernel) rfl
theorem w77 : Cond.initialized RJ1 ∈ pz_TB := pz_at 77 (by decide +kernel) rfl
theorem w652 : Cond.methodLink RJ0 495 yJ1_charAt_3b067 ∈ pz_TB := pz_at 652 (by decide +kernel) rfl
theorem w653 : Cond.static yJ1_charAt_3b067 ∈ pz_TB := pz_at 653 (by decide +kernel) rfl
theorem wf_J0_1053 : Cond.fieldLink RJ0 1053 "jdk/internal/util/Preconditions" "SIOOBE_FORMATTER" "Ljava/util/function/BiFunction;" ∈ pz_TB := pz_at 658 (by decide +kernel) rfl
theorem wf_J0_38 : Cond.fieldLink RJ0 38 "java/lang/String" "COMPACT_STRINGS" "Z" ∈ pz_TB := pz_at 642 (by decide +kernel) rfl
theorem wf_J0_15 : Cond.fieldLink RJ0 15 "java/lang/String" "coder" "B" ∈ pz_TB := pz_at 1412 (by decide +kernel) rfl
theorem w742 : Cond.code yJ0_indexOf_7cf53 cJ0_indexOf_7cf53 3 (some .int) ∈ pz_TB := pz_at 742 (by decide +kernel) rfl
theorem w739 : Cond.methodLink RJ0 633 yJ0_indexOf_7cf53 ∈ pz_TB := pz_at 739 (by decide +kernel) rfl
theorem w740 : Cond.instanceMethod yJ0_indexOf_7cf53 ∈ pz_TB := pz_at 740 (by decide +kernel) rfl
theorem w741 : Cond.selects RJ0 yJ0_indexOf_7cf53 yJ0_indexOf_7cf53 ∈ pz_TB := pz_at 741 (by decide +kernel) rfl
theorem w743 : Cond.methodLink RJ0 505 yJ0_length_8abf5 ∈ pz_TB := pz_at 743 (by decide +kernel) rfl
theorem w746 : Cond.code yJ1_indexOf_4cfef cJ1_indexOf_4cfef 4 (some .int) ∈ pz_TB := pz_at 746 (by decide +kernel) rfl
theorem w744 : Cond.methodLink RJ0 637 yJ1_indexOf_4cfef ∈ pz_TB := pz_at 744 (by decide +kernel) rfl
theorem w745 : Cond.static yJ1_indexOf_4cfef ∈ pz_TB := pz_at 745 (by decide +kernel) rfl
theorem w641 : Cond.code yJ0_coder_7d493 cJ0_coder_7d493 1 (some .byte) ∈ pz_TB := pz_at 641 (by decide +kernel) rfl
theorem w638 : Cond.methodLink RJ0 335 yJ0_coder_7d493 ∈ pz_TB := pz_at 638 (by decide +kernel) rfl
theorem w639 : Cond.instanceMethod yJ0_coder_7d493 ∈ pz_TB := pz_at 639 (by decide +kernel) rfl
theorem w640 : Cond.selects RJ0 yJ0_coder_7d493 yJ0_coder_7d493 ∈ pz_TB := pz_at 640 (by decide +kernel) rfl
theorem w657 : Cond.code yJ0_checkIndex_df160 cJ0_checkIndex_df160 2 none ∈ pz_TB := pz_at 657 (by decide +kernel) rfl
theorem w655 : Cond.methodLink RJ1 9 yJ0_checkIndex_df160 ∈ pz_TB := pz_at 655 (by decide +kernel) rfl
theorem w656 : Cond.static yJ0_checkIndex_df160 ∈ pz_TB := pz_at 656 (by decide +kernel) rfl
theorem w749 : Cond.code yJ1_canEncode_9a6ad cJ1_canEncode_9a6ad 1 (some .boolean) ∈ pz_TB := pz_at 749 (by decide +kernel) rfl
theorem w747 : Cond.methodLink RJ1 88 yJ1_canEncode_9a6ad ∈ pz_TB := pz_at 747 (by decide +kernel) rfl
theorem w748 : Cond.static yJ1_canEncode_9a6ad ∈ pz_TB := pz_at 748 (by decide +kernel) rfl
theorem wm_J1_92 : Cond.methodLink RJ1 92 Lib.Math.max.name ∈ pz_TB := pz_at 750 (by decide +kernel) rfl
theorem wm_J1_38 : Cond.methodLink RJ1 38 Lib.Math.min.name ∈ pz_TB := pz_at 751 (by decide +kernel) rfl
theorem w754 : Cond.code yJ1_indexOfChar_4cfef cJ1_indexOfChar_4cfef 6 (some .int) ∈ pz_TB := pz_at 754 (by decide +kernel) rfl
theorem w752 : Cond.methodLink RJ1 95 yJ1_indexOfChar_4cfef ∈ pz_TB := pz_at 752 (by decide +kernel) rfl
theorem w753 : Cond.static yJ1_indexOfChar_4cfef ∈ pz_TB := pz_at 753 (by decide +kernel) rfl
theorem yd_X1_init : yX1_init.cls ≠ "java/lang/invoke/MethodHandle" ∧ yX1_init.cls ≠ "java/lang/invoke/VarHandle" ∧ (parseMethodDescriptor yX1_init.desc).map (fun d => d.parameters.length) = some 0 ∧ 1 ≤ 21 := by decide +kernel
theorem yd_X7_init : yX7_init.cls ≠ "java/lang/invoke/MethodHandle" ∧ yX7_init.cls ≠ "java/lang/invoke/VarHandle" ∧ (parseMethodDescriptor yX7_init.desc).map (fun d => d.parameters.length) = some 1 ∧ 2 ≤ 21 := by decide +kernel
theorem yd_X3_init : yX3_init.cls ≠ "java/lang/invoke/MethodHandle" ∧ yX3_init.cls ≠ "java/lang/invoke/VarHandle" ∧ (parseMethodDescriptor yX3_init.desc).map (fun d => d.parameters.length) = some 0 ∧ 1 ≤ 21 := by decide +kernel
theorem yd_X8_init : yX8_init.cls ≠ "java/lang/invoke/MethodHandle" ∧ yX8_init.cls ≠ "java/lang/invoke/VarHandle" ∧ (parseMethodDescriptor yX8_init.desc).map (fun d => d.parameters.length) = some 0 ∧ 1 ≤ 21 := by decide +kernel
theorem yd_X4_init : yX4_init.cls ≠ "java/lang/invoke/MethodHandle" ∧ yX4_init.cls ≠ "java/lang/invoke/VarHandle" ∧ (parseMethodDescriptor yX4_init.desc).map (fun d => d.parameters.length) = some 0 ∧ 1 ≤ 21 := by decide +kernel
theorem yd_X5_init : yX5_init.cls ≠ "java/lang/invoke/MethodHandle" ∧ yX5_init.cls ≠ "java/lang/invoke/VarHandle" ∧ (parseMethodDescriptor yX5_init.desc).map (fun d => d.parameters.length) = some 0 ∧ 1 ≤ 21 := by decide +kernel
theorem yd_X0_isKind : yX0_isKind.cls ≠ "java/lang/invoke/MethodHandle" ∧ yX0_isKind.cls ≠ "java/lang/invoke/VarHandle" ∧ (parseMethodDescriptor yX0_isKind.desc).map (fun d => d.parameters.length) = some 1 ∧ 1 ≤ 21 := by decide +kernel
theorem yd_X9_isCell : yX9_isCell.cls ≠ "java/lang/invoke/MethodHandle" ∧ yX9_isCell.cls ≠ "java/lang/invoke/VarHandle" ∧ (parseMethodDescriptor yX9_isCell.desc).map (fun d => d.parameters.length) = some 1 ∧ 1 ≤ 21 := by decide +kernel
theorem yd_X7_comes : yX7_comes.cls ≠ "java/lang/invoke/MethodHandle" ∧ yX7_comes.cls ≠ "java/lang/invoke/VarHandle" ∧ (parseMethodDescriptor yX7_comes.desc).map (fun d => d.parameters.length) = some 2 ∧ 4 ≤ 21 := by decide +kernel
theorem yd_X7_hasEater : yX7_hasEater.cls ≠ "java/lang/invoke/MethodHandle" ∧ yX7_hasEater.cls ≠ "java/lang/invoke/VarHandle" ∧ (parseMethodDescriptor yX7_hasEater.desc).map (fun d => d.parameters.length) = some 1 ∧ 2 ≤ 21 := by decide +kernel
theorem yd_X0_eats : yX0_eats.cls ≠ "java/lang/invoke/MethodHandle" ∧ yX0_eats.cls ≠ "java/lang/invoke/VarHandle" ∧ (parseMethodDescriptor yX0_eats.desc).map (fun d => d.parameters.length) = some 2 ∧ 2 ≤ 21 := by decide +kernel
theorem yd_X0_wades : yX0_wades.cls ≠ "java/lang/invoke/MethodHandle" ∧ yX0_wades.cls ≠ "java/lang/invoke/VarHandle" ∧ (parseMethodDescriptor yX0_wades.desc).map (fun d => d.parameters.length) = some 1 ∧ 1 ≤ 21 := by decide +kernel
theorem yd_X0_worth : yX0_worth.cls ≠ "java/lang/invoke/MethodHandle" ∧ yX0_worth.cls ≠ "java/lang/invoke/VarHandle" ∧ (parseMethodDescriptor yX0_worth.desc).map (fun d => d.parameters.length) = some 2 ∧ 2 ≤ 21 := by decide +kernel
theorem yd_X9_within : yX9_within.cls ≠ "java/lang/invoke/MethodHandle" ∧ yX9_within.cls ≠ "java/lang/invoke/VarHandle" ∧ (parseMethodDescriptor yX9_within.desc).map (fun d => d.parameters.length) = some 3 ∧ 3 ≤ 21 := by decide +kernel
theorem yd_X7_level : yX7_level.cls ≠ "java/lang/invoke/MethodHandle" ∧ yX7_level.cls ≠ "java/lang/invoke/VarHandle" ∧ (parseMethodDescriptor yX7_level.desc).map (fun d => d.parameters.length) = some 1 ∧ 2 ≤ 21 := by decide +kernel
theorem yd_X7_laid : yX7_laid.cls ≠ "java/lang/invoke/MethodHandle" ∧ yX7_laid.cls ≠ "java/lang/invoke/VarHandle" ∧ (parseMethodDescriptor yX7_laid.desc).map (fun d => d.parameters.length) = some 1 ∧ 2 ≤ 21 := by decide +kernel
theorem yd_X0_isUnder : yX0_isUnder.cls ≠ "java/lang/invoke/MethodHandle" ∧ yX0_isUnder.cls ≠ "java/lang/invoke/VarHandle" ∧ (parseMethodDescriptor yX0_isUnder.desc).map (fun d => d.parameters.length) = some 2 ∧ 4 ≤ 21 := by decide +kernel
theorem yd_X7_draw : yX7_draw.cls ≠ "java/lang/invoke/MethodHandle" ∧ yX7_draw.cls ≠ "java/lang/invoke/VarHandle" ∧ (parseMethodDescriptor yX7_draw.desc).map (fun d => d.parameters.length) = some 0 ∧ 1 ≤ 21 := by decide +kernel
theorem yd_X7_allAte : yX7_allAte.cls ≠ "java/lang/invoke/MethodHandle" ∧ yX7_allAte.cls ≠ "java/lang/invoke/VarHandle" ∧ (parseMethodDescriptor yX7_allAte.desc).map (fun d => d.parameters.length) = some 0 ∧ 3 ≤ 21 := by decide +kernel
theorem yd_X7_passes : yX7_passes.cls ≠ "java/lang/invoke/MethodHandle" ∧ yX7_passes.cls ≠ "java/lang/invoke/VarHandle" ∧ (parseMethodDescriptor yX7_passes.desc).map (fun d => d.parameters.length) = some 1 ∧ 3 ≤ 21 := by decide +kernel
theorem yd_X7_allParts : yX7_allParts.cls ≠ "java/lang/invoke/MethodHandle" ∧ yX7_allParts.cls ≠ "java/lang/invoke/VarHandle" ∧ (parseMethodDescriptor yX7_allParts.desc).map (fun d => d.parameters.length) = some 0 ∧ 3 ≤ 21 := by decide +kernel
theorem yd_X7_wetCells : yX7_wetCells.cls ≠ "java/lang/invoke/MethodHandle" ∧ yX7_wetCells.cls ≠ "java/lang/invoke/VarHandle" ∧ (parseMethodDescriptor yX7_wetCells.desc).map (fun d => d.parameters.length) = some 0 ∧ 3 ≤ 21 := by decide +kernel
theorem yd_X7_pours : yX7_pours.cls ≠ "java/lang/invoke/MethodHandle" ∧ yX7_pours.cls ≠ "java/lang/invoke/VarHandle" ∧ (parseMethodDescriptor yX7_pours.desc).map (fun d => d.parameters.length) = some 0 ∧ 3 ≤ 21 := by decide +kernel
theorem yd_X8_fewest : yX8_fewest.cls ≠ "java/lang/invoke/MethodHandle" ∧ yX8_fewest.cls ≠ "java/lang/invoke/VarHandle" ∧ (parseMethodDescriptor yX8_fewest.desc).map (fun d => d.parameters.length) = some 4 ∧ 9 ≤ 21 := by decide +kernel
theorem yd_X7_becomes : yX7_becomes.cls ≠ "java/lang/invoke/MethodHandle" ∧ yX7_becomes.cls ≠ "java/lang/invoke/VarHandle" ∧ (parseMethodDescriptor yX7_becomes.desc).map (fun d => d.parameters.length) = some 1 ∧ 2 ≤ 21 := by decide +kernel
theorem yd_X7_pass : yX7_pass.cls ≠ "java/lang/invoke/MethodHandle" ∧ yX7_pass.cls ≠ "java/lang/invoke/VarHandle" ∧ (parseMethodDescriptor yX7_pass.desc).map (fun d => d.parameters.length) = some 0 ∧ 2 ≤ 21 := by decide +kernel
theorem yd_X9_isSheet : yX9_isSheet.cls ≠ "java/lang/invoke/MethodHandle" ∧ yX9_isSheet.cls ≠ "java/lang/invoke/VarHandle" ∧ (parseMethodDescriptor yX9_isSheet.desc).map (fun d => d.parameters.length) = some 1 ∧ 1 ≤ 21 := by decide +kernel
theorem yd_X4_isMissing : yX4_isMissing.cls ≠ "java/lang/invoke/MethodHandle" ∧ yX4_isMissing.cls ≠ "java/lang/invoke/VarHandle" ∧ (parseMethodDescriptor yX4_isMissing.desc).map (fun d => d.parameters.length) = some 0 ∧ 1 ≤ 21 := by decide +kernel
theorem yd_X4_differsFrom : yX4_differsFrom.cls ≠ "java/lang/invoke/MethodHandle" ∧ yX4_differsFrom.cls ≠ "java/lang/invoke/VarHandle" ∧ (parseMethodDescriptor yX4_differsFrom.desc).map (fun d => d.parameters.length) = some 1 ∧ 4 ≤ 21 := by decide +kernel
theorem yd_X1_counting : yX1_counting.cls ≠ "java/lang/invoke/MethodHandle" ∧ yX1_counting.cls ≠ "java/lang/invoke/VarHandle" ∧ (parseMethodDescriptor yX1_counting.desc).map (fun d => d.parameters.length) = some 2 ∧ 3 ≤ 21 := by decide +kernel
theorem yd_X1_given : yX1_given.cls ≠ "java/lang/invoke/MethodHandle" ∧ yX1_given.cls ≠ "java/lang/invoke/VarHandle" ∧ (parseMethodDescriptor yX1_given.desc).map (fun d => d.parameters.length) = some 4 ∧ 8 ≤ 21 := by decide +kernel
theorem yd_X3_getsNumber : yX3_getsNumber.cls ≠ "java/lang/invoke/MethodHandle" ∧ yX3_getsNumber.cls ≠ "java/lang/invoke/VarHandle" ∧ (parseMethodDescriptor yX3_getsNumber.desc).map (fun d => d.parameters.length) = some 1 ∧ 3 ≤ 21 := by decide +kernel
theorem yd_X3_findsFault : yX3_findsFault.cls ≠ "java/lang/invoke/MethodHandle" ∧ yX3_findsFault.cls ≠ "java/lang/invoke/VarHandle" ∧ (parseMethodDescriptor yX3_findsFault.desc).map (fun d => d.parameters.length) = some 0 ∧ 2 ≤ 21 := by decide +kernel
theorem yd_X1_takes : yX1_takes.cls ≠ "java/lang/invoke/MethodHandle" ∧ yX1_takes.cls ≠ "java/lang/invoke/VarHandle" ∧ (parseMethodDescriptor yX1_takes.desc).map (fun d => d.parameters.length) = some 2 ∧ 4 ≤ 21 := by decide +kernel
theorem yd_X1_numbered : yX1_numbered.cls ≠ "java/lang/invoke/MethodHandle" ∧ yX1_numbered.cls ≠ "java/lang/invoke/VarHandle" ∧ (parseMethodDescriptor yX1_numbered.desc).map (fun d => d.parameters.length) = some 1 ∧ 2 ≤ 21 := by decide +kernel
theorem yd_X1_last : yX1_last.cls ≠ "java/lang/invoke/MethodHandle" ∧ yX1_last.cls ≠ "java/lang/invoke/VarHandle" ∧ (parseMethodDescriptor yX1_last.desc).map (fun d => d.parameters.length) = some 2 ∧ 4 ≤ 21 := by decide +kernel
theorem yd_X4_becomes : yX4_becomes.cls ≠ "java/lang/invoke/MethodHandle" ∧ yX4_becomes.cls ≠ "java/lang/invoke/VarHandle" ∧ (parseMethodDescriptor yX4_becomes.desc).map (fun d => d.parameters.length) = some 2 ∧ 4 ≤ 21 := by decide +kernel
theorem yd_X4_hasPlace : yX4_hasPlace.cls ≠ "java/lang/invoke/MethodHandle" ∧ yX4_hasPlace.cls ≠ "java/lang/invoke/VarHandle" ∧ (parseMethodDescriptor yX4_hasPlace.desc).map (fun d => d.parameters.length) = some 1 ∧ 2 ≤ 21 := by decide +kernel
theorem yd_X4_poursInto : yX4_poursInto.cls ≠ "java/lang/invoke/MethodHandle" ∧ yX4_poursInto.cls ≠ "java/lang/invoke/VarHandle" ∧ (parseMethodDescriptor yX4_poursInto.desc).map (fun d => d.parameters.length) = some 1 ∧ 5 ≤ 21 := by decide +kernel
theorem yd_X4_firstUnlike : yX4_firstUnlike.cls ≠ "java/lang/invoke/MethodHandle" ∧ yX4_firstUnlike.cls ≠ "java/lang/invoke/VarHandle" ∧ (parseMethodDescriptor yX4_firstUnlike.desc).map (fun d => d.parameters.length) = some 1 ∧ 3 ≤ 21 := by decide +kernel
theorem yd_X4_hasPlaces : yX4_hasPlaces.cls ≠ "java/lang/invoke/MethodHandle" ∧ yX4_hasPlaces.cls ≠ "java/lang/invoke/VarHandle" ∧ (parseMethodDescriptor yX4_hasPlaces.desc).map (fun d => d.parameters.length) = some 2 ∧ 3 ≤ 21 := by decide +kernel
theorem yd_X9_isSlot : yX9_isSlot.cls ≠ "java/lang/invoke/MethodHandle" ∧ yX9_isSlot.cls ≠ "java/lang/invoke/VarHandle" ∧ (parseMethodDescriptor yX9_isSlot.desc).map (fun d => d.parameters.length) = some 1 ∧ 1 ≤ 21 := by decide +kernel
theorem yd_X4_becomes_ : yX4_becomes_.cls ≠ "java/lang/invoke/MethodHandle" ∧ yX4_becomes_.cls ≠ "java/lang/invoke/VarHandle" ∧ (parseMethodDescriptor yX4_becomes_.desc).map (fun d => d.parameters.length) = some 1 ∧ 2 ≤ 21 := by decide +kernel
theorem yd_X9_unlessHeld : yX9_unlessHeld.cls ≠ "java/lang/invoke/MethodHandle" ∧ yX9_unlessHeld.cls ≠ "java/lang/invoke/VarHandle" ∧ (parseMethodDescriptor yX9_unlessHeld.desc).map (fun d => d.parameters.length) = some 2 ∧ 3 ≤ 21 := by decide +kernel
theorem yd_X4_isNumber : yX4_isNumber.cls ≠ "java/lang/invoke/MethodHandle" ∧ yX4_isNumber.cls ≠ "java/lang/invoke/VarHandle" ∧ (parseMethodDescriptor yX4_isNumber.desc).map (fun d => d.parameters.length) = some 1 ∧ 2 ≤ 21 := by decide +kernel
theorem yd_X9_waited : yX9_waited.cls ≠ "java/lang/invoke/MethodHandle" ∧ yX9_waited.cls ≠ "java/lang/invoke/VarHandle" ∧ (parseMethodDescriptor yX9_waited.desc).map (fun d => d.parameters.length) = some 3 ∧ 4 ≤ 21 := by decide +kernel
theorem yd_X10_isIn : yX10_isIn.cls ≠ "java/lang/invoke/MethodHandle" ∧ yX10_isIn.cls ≠ "java/lang/invoke/VarHandle" ∧ (parseMethodDescriptor yX10_isIn.desc).map (fun d => d.parameters.length) = some 3 ∧ 6 ≤ 21 := by decide +kernel
theorem yd_X10_parts : yX10_parts.cls ≠ "java/lang/invoke/MethodHandle" ∧ yX10_parts.cls ≠ "java/lang/invoke/VarHandle" ∧ (parseMethodDescriptor yX10_parts.desc).map (fun d => d.parameters.length) = some 1 ∧ 2 ≤ 21 := by decide +kernel
theorem yd_X10_sets : yX10_sets.cls ≠ "java/lang/invoke/MethodHandle" ∧ yX10_sets.cls ≠ "java/lang/invoke/VarHandle" ∧ (parseMethodDescriptor yX10_sets.desc).map (fun d => d.parameters.length) = some 3 ∧ 4 ≤ 21 := by decide +kernel
theorem yd_X10_isCell : yX10_isCell.cls ≠ "java/lang/invoke/MethodHandle" ∧ yX10_isCell.cls ≠ "java/lang/invoke/VarHandle" ∧ (parseMethodDescriptor yX10_isCell.desc).map (fun d => d.parameters.length) = some 1 ∧ 1 ≤ 21 := by decide +kernel
theorem yd_X10_comes : yX10_comes.cls ≠ "java/lang/invoke/MethodHandle" ∧ yX10_comes.cls ≠ "java/lang/invoke/VarHandle" ∧ (parseMethodDescriptor yX10_comes.desc).map (fun d => d.parameters.length) = some 2 ∧ 4 ≤ 21 := by decide +kernel
theorem yd_X10_of : yX10_of.cls ≠ "java/lang/invoke/MethodHandle" ∧ yX10_of.cls ≠ "java/lang/invoke/VarHandle" ∧ (parseMethodDescriptor yX10_of.desc).map (fun d => d.parameters.length) = some 2 ∧ 3 ≤ 21 := by decide +kernel
theorem yd_X10_isEater : yX10_isEater.cls ≠ "java/lang/invoke/MethodHandle" ∧ yX10_isEater.cls ≠ "java/lang/invoke/VarHandle" ∧ (parseMethodDescriptor yX10_isEater.desc).map (fun d => d.parameters.length) = some 1 ∧ 2 ≤ 21 := by decide +kernel
theorem yd_X10_eats : yX10_eats.cls ≠ "java/lang/invoke/MethodHandle" ∧ yX10_eats.cls ≠ "java/lang/invoke/VarHandle" ∧ (parseMethodDescriptor yX10_eats.desc).map (fun d => d.parameters.length) = some 1 ∧ 2 ≤ 21 := by decide +kernel
theorem yd_X10_wades : yX10_wades.cls ≠ "java/lang/invoke/MethodHandle" ∧ yX10_wades.cls ≠ "java/lang/invoke/VarHandle" ∧ (parseMethodDescriptor yX10_wades.desc).map (fun d => d.parameters.length) = some 1 ∧ 2 ≤ 21 := by decide +kernel
theorem yd_X10_worth : yX10_worth.cls ≠ "java/lang/invoke/MethodHandle" ∧ yX10_worth.cls ≠ "java/lang/invoke/VarHandle" ∧ (parseMethodDescriptor yX10_worth.desc).map (fun d => d.parameters.length) = some 1 ∧ 3 ≤ 21 := by decide +kernel
theorem yd_X10_level : yX10_level.cls ≠ "java/lang/invoke/MethodHandle" ∧ yX10_level.cls ≠ "java/lang/invoke/VarHandle" ∧ (parseMethodDescriptor yX10_level.desc).map (fun d => d.parameters.length) = some 1 ∧ 2 ≤ 21 := by decide +kernel
theorem yd_X10_becomes : yX10_becomes.cls ≠ "java/lang/invoke/MethodHandle" ∧ yX10_becomes.cls ≠ "java/lang/invoke/VarHandle" ∧ (parseMethodDescriptor yX10_becomes.desc).map (fun d => d.parameters.length) = some 2 ∧ 4 ≤ 21 := by decide +kernel
theorem yd_X10_isOf : yX10_isOf.cls ≠ "java/lang/invoke/MethodHandle" ∧ yX10_isOf.cls ≠ "java/lang/invoke/VarHandle" ∧ (parseMethodDescriptor yX10_isOf.desc).map (fun d => d.parameters.length) = some 2 ∧ 2 ≤ 21 := by decide +kernel
theorem yd_X10_within : yX10_within.cls ≠ "java/lang/invoke/MethodHandle" ∧ yX10_within.cls ≠ "java/lang/invoke/VarHandle" ∧ (parseMethodDescriptor yX10_within.desc).map (fun d => d.parameters.length) = some 2 ∧ 2 ≤ 21 := by decide +kernel
theorem yd_X10_mostRule : yX10_mostRule.cls ≠ "java/lang/invoke/MethodHandle" ∧ yX10_mostRule.cls ≠ "java/lang/invoke/VarHandle" ∧ (parseMethodDescriptor yX10_mostRule.desc).map (fun d => d.parameters.length) = some 1 ∧ 1 ≤ 21 := by decide +kernel
theorem yd_X10_drawn : yX10_drawn.cls ≠ "java/lang/invoke/MethodHandle" ∧ yX10_drawn.cls ≠ "java/lang/invoke/VarHandle" ∧ (parseMethodDescriptor yX10_drawn.desc).map (fun d => d.parameters.length) = some 0 ∧ 1 ≤ 21 := by decide +kernel
theorem yd_X10_counts : yX10_counts.cls ≠ "java/lang/invoke/MethodHandle" ∧ yX10_counts.cls ≠ "java/lang/invoke/VarHandle" ∧ (parseMethodDescriptor yX10_counts.desc).map (fun d => d.parameters.length) = some 1 ∧ 4 ≤ 21 := by decide +kernel
theorem yd_X10_worked : yX10_worked.cls ≠ "java/lang/invoke/MethodHandle" ∧ yX10_worked.cls ≠ "java/lang/invoke/VarHandle" ∧ (parseMethodDescriptor yX10_worked.desc).map (fun d => d.parameters.length) = some 1 ∧ 6 ≤ 21 := by decide +kernel
theorem yd_X10_beside : yX10_beside.cls ≠ "java/lang/invoke/MethodHandle" ∧ yX10_beside.cls ≠ "java/lang/invoke/VarHandle" ∧ (parseMethodDescriptor yX10_beside.desc).map (fun d => d.parameters.length) = some 2 ∧ 2 ≤ 21 := by decide +kernel
theorem yd_X10_pours : yX10_pours.cls ≠ "java/lang/invoke/MethodHandle" ∧ yX10_pours.cls ≠ "java/lang/invoke/VarHandle" ∧ (parseMethodDescriptor yX10_pours.desc).map (fun d => d.parameters.length) = some 0 ∧ 2 ≤ 21 := by decide +kernel
theorem yd_X10_flows : yX10_flows.cls ≠ "java/lang/invoke/MethodHandle" ∧ yX10_flows.cls ≠ "java/lang/invoke/VarHandle" ∧ (parseMethodDescriptor yX10_flows.desc).map (fun d => d.parameters.length) = some 1 ∧ 5 ≤ 21 := by decide +kernel
theorem yd_X10_dines : yX10_dines.cls ≠ "java/lang/invoke/MethodHandle" ∧ yX10_dines.cls ≠ "java/lang/invoke/VarHandle" ∧ (parseMethodDescriptor yX10_dines.desc).map (fun d => d.parameters.length) = some 1 ∧ 8 ≤ 21 := by decide +kernel
theorem yd_X10_goesOn : yX10_goesOn.cls ≠ "java/lang/invoke/MethodHandle" ∧ yX10_goesOn.cls ≠ "java/lang/invoke/VarHandle" ∧ (parseMethodDescriptor yX10_goesOn.desc).map (fun d => d.parameters.length) = some 0 ∧ 3 ≤ 21 := by decide +kernel
theorem yd_X10_allParts : yX10_allParts.cls ≠ "java/lang/invoke/MethodHandle" ∧ yX10_allParts.cls ≠ "java/lang/invoke/VarHandle" ∧ (parseMethodDescriptor yX10_allParts.desc).map (fun d => d.parameters.length) = some 0 ∧ 3 ≤ 21 := by decide +kernel
theorem yd_X10_allAte : yX10_allAte.cls ≠ "java/lang/invoke/MethodHandle" ∧ yX10_allAte.cls ≠ "java/lang/invoke/VarHandle" ∧ (parseMethodDescriptor yX10_allAte.desc).map (fun d => d.parameters.length) = some 0 ∧ 3 ≤ 21 := by decide +kernel
theorem yd_X10_manyWet : yX10_manyWet.cls ≠ "java/lang/invoke/MethodHandle" ∧ yX10_manyWet.cls ≠ "java/lang/invoke/VarHandle" ∧ (parseMethodDescriptor yX10_manyWet.desc).map (fun d => d.parameters.length) = some 0 ∧ 3 ≤ 21 := by decide +kernel
theorem yd_X10_orNone : yX10_orNone.cls ≠ "java/lang/invoke/MethodHandle" ∧ yX10_orNone.cls ≠ "java/lang/invoke/VarHandle" ∧ (parseMethodDescriptor yX10_orNone.desc).map (fun d => d.parameters.length) = some 1 ∧ 1 ≤ 21 := by decide +kernel
theorem yd_X10_laysBy : yX10_laysBy.cls ≠ "java/lang/invoke/MethodHandle" ∧ yX10_laysBy.cls ≠ "java/lang/invoke/VarHandle" ∧ (parseMethodDescriptor yX10_laysBy.desc).map (fun d => d.parameters.length) = some 0 ∧ 2 ≤ 21 := by decide +kernel
theorem yd_X10_goesOnMany : yX10_goesOnMany.cls ≠ "java/lang/invoke/MethodHandle" ∧ yX10_goesOnMany.cls ≠ "java/lang/invoke/VarHandle" ∧ (parseMethodDescriptor yX10_goesOnMany.desc).map (fun d => d.parameters.length) = some 1 ∧ 4 ≤ 21 := by decide +kernel
theorem yd_X10_laysBack : yX10_laysBack.cls ≠ "java/lang/invoke/MethodHandle" ∧ yX10_laysBack.cls ≠ "java/lang/invoke/VarHandle" ∧ (parseMethodDescriptor yX10_laysBack.desc).map (fun d => d.parameters.length) = some 0 ∧ 2 ≤ 21 := by decide +kernel
theorem yd_X10_isLetter : yX10_isLetter.cls ≠ "java/lang/invoke/MethodHandle" ∧ yX10_isLetter.cls ≠ "java/lang/invoke/VarHandle" ∧ (parseMethodDescriptor yX10_isLetter.desc).map (fun d => d.parameters.length) = some 1 ∧ 2 ≤ 21 := by decide +kernel
theorem yd_X10_isDigit : yX10_isDigit.cls ≠ "java/lang/invoke/MethodHandle" ∧ yX10_isDigit.cls ≠ "java/lang/invoke/VarHandle" ∧ (parseMethodDescriptor yX10_isDigit.desc).map (fun d => d.parameters.length) = some 1 ∧ 2 ≤ 21 := by decide +kernel
theorem yd_X10_isWordAt : yX10_isWordAt.cls ≠ "java/lang/invoke/MethodHandle" ∧ yX10_isWordAt.cls ≠ "java/lang/invoke/VarHandle" ∧ (parseMethodDescriptor yX10_isWordAt.desc).map (fun d => d.parameters.length) = some 4 ∧ 6 ≤ 21 := by decide +kernel
theorem yd_X10_both : yX10_both.cls ≠ "java/lang/invoke/MethodHandle" ∧ yX10_both.cls ≠ "java/lang/invoke/VarHandle" ∧ (parseMethodDescriptor yX10_both.desc).map (fun d => d.parameters.length) = some 1 ∧ 2 ≤ 21 := by decide +kernel
theorem yd_X10_isSign : yX10_isSign.cls ≠ "java/lang/invoke/MethodHandle" ∧ yX10_isSign.cls ≠ "java/lang/invoke/VarHandle" ∧ (parseMethodDescriptor yX10_isSign.desc).map (fun d => d.parameters.length) = some 1 ∧ 2 ≤ 21 := by decide +kernel
theorem yd_X10_nextToken : yX10_nextToken.cls ≠ "java/lang/invoke/MethodHandle" ∧ yX10_nextToken.cls ≠ "java/lang/invoke/VarHandle" ∧ (parseMethodDescriptor yX10_nextToken.desc).map (fun d => d.parameters.length) = some 0 ∧ 3 ≤ 21 := by decide +kernel
theorem yd_X10_step : yX10_step.cls ≠ "java/lang/invoke/MethodHandle" ∧ yX10_step.cls ≠ "java/lang/invoke/VarHandle" ∧ (parseMethodDescriptor yX10_step.desc).map (fun d => d.parameters.length) = some 2 ∧ 3 ≤ 21 := by decide +kernel
theorem yd_X10_test : yX10_test.cls ≠ "java/lang/invoke/MethodHandle" ∧ yX10_test.cls ≠ "java/lang/invoke/VarHandle" ∧ (parseMethodDescriptor yX10_test.desc).map (fun d => d.parameters.length) = some 1 ∧ 3 ≤ 21 := by decide +kernel
theorem yd_X10_sum : yX10_sum.cls ≠ "java/lang/invoke/MethodHandle" ∧ yX10_sum.cls ≠ "java/lang/invoke/VarHandle" ∧ (parseMethodDescriptor yX10_sum.desc).map (fun d => d.parameters.length) = some 1 ∧ 3 ≤ 21 := by decide +kernel
theorem yd_X10_term : yX10_term.cls ≠ "java/lang/invoke/MethodHandle" ∧ yX10_term.cls ≠ "java/lang/invoke/VarHandle" ∧ (parseMethodDescriptor yX10_term.desc).map (fun d => d.parameters.length) = some 1 ∧ 3 ≤ 21 := by decide +kernel
theorem yd_X10_part0 : yX10_part0.cls ≠ "java/lang/invoke/MethodHandle" ∧ yX10_part0.cls ≠ "java/lang/invoke/VarHandle" ∧ (parseMethodDescriptor yX10_part0.desc).map (fun d => d.parameters.length) = some 1 ∧ 2 ≤ 21 := by decide +kernel
theorem yd_X10_isName : yX10_isName.cls ≠ "java/lang/invoke/MethodHandle" ∧ yX10_isName.cls ≠ "java/lang/invoke/VarHandle" ∧ (parseMethodDescriptor yX10_isName.desc).map (fun d => d.parameters.length) = some 2 ∧ 2 ≤ 21 := by decide +kernel
theorem yd_X10_either : yX10_either.cls ≠ "java/lang/invoke/MethodHandle" ∧ yX10_either.cls ≠ "java/lang/invoke/VarHandle" ∧ (parseMethodDescriptor yX10_either.desc).map (fun d => d.parameters.length) = some 1 ∧ 2 ≤ 21 := by decide +kernel
theorem yd_X10_textAt : yX10_textAt.cls ≠ "java/lang/invoke/MethodHandle" ∧ yX10_textAt.cls ≠ "java/lang/invoke/VarHandle" ∧ (parseMethodDescriptor yX10_textAt.desc).map (fun d => d.parameters.length) = some 1 ∧ 2 ≤ 21 := by decide +kernel
theorem yd_X10_key : yX10_key.cls ≠ "java/lang/invoke/MethodHandle" ∧ yX10_key.cls ≠ "java/lang/invoke/VarHandle" ∧ (parseMethodDescriptor yX10_key.desc).map (fun d => d.parameters.length) = some 0 ∧ 1 ≤ 21 := by decide +kernel
theorem yd_X10_parse : yX10_parse.cls ≠ "java/lang/invoke/MethodHandle" ∧ yX10_parse.cls ≠ "java/lang/invoke/VarHandle" ∧ (parseMethodDescriptor yX10_parse.desc).map (fun d => d.parameters.length) = some 0 ∧ 3 ≤ 21 := by decide +kernel
theorem yd_X10_isText : yX10_isText.cls ≠ "java/lang/invoke/MethodHandle" ∧ yX10_isText.cls ≠ "java/lang/invoke/VarHandle" ∧ (parseMethodDescriptor yX10_isText.desc).map (fun d => d.parameters.length) = some 1 ∧ 2 ≤ 21 := by decide +kernel
theorem yd_X10_joined : yX10_joined.cls ≠ "java/lang/invoke/MethodHandle" ∧ yX10_joined.cls ≠ "java/lang/invoke/VarHandle" ∧ (parseMethodDescriptor yX10_joined.desc).map (fun d => d.parameters.length) = some 3 ∧ 3 ≤ 21 := by decide +kernel
theorem yd_X10_isSheet : yX10_isSheet.cls ≠ "java/lang/invoke/MethodHandle" ∧ yX10_isSheet.cls ≠ "java/lang/invoke/VarHandle" ∧ (parseMethodDescriptor yX10_isSheet.desc).map (fun d => d.parameters.length) = some 1 ∧ 1 ≤ 21 := by decide +kernel
theorem yd_X10_off : yX10_off.cls ≠ "java/lang/invoke/MethodHandle" ∧ yX10_off.cls ≠ "java/lang/invoke/VarHandle" ∧ (parseMethodDescriptor yX10_off.desc).map (fun d => d.parameters.length) = some 2 ∧ 2 ≤ 21 := by decide +kernel
theorem yd_X10_isSlot : yX10_isSlot.cls ≠ "java/lang/invoke/MethodHandle" ∧ yX10_isSlot.cls ≠ "java/lang/invoke/VarHandle" ∧ (parseMethodDescriptor yX10_isSlot.desc).map (fun d => d.parameters.length) = some 1 ∧ 1 ≤ 21 := by decide +kernel
theorem yd_X10_setAside : yX10_setAside.cls ≠ "java/lang/invoke/MethodHandle" ∧ yX10_setAside.cls ≠ "java/lang/invoke/VarHandle" ∧ (parseMethodDescriptor yX10_setAside.desc).map (fun d => d.parameters.length) = some 2 ∧ 4 ≤ 21 := by decide +kernel
theorem yd_X0_gluttonWorth : yX0_gluttonWorth.cls ≠ "java/lang/invoke/MethodHandle" ∧ yX0_gluttonWorth.cls ≠ "java/lang/invoke/VarHandle" ∧ (parseMethodDescriptor yX0_gluttonWorth.desc).map (fun d => d.parameters.length) = some 1 ∧ 1 ≤ 21 := by decide +kernel
theorem yd_X0_childWorth : yX0_childWorth.cls ≠ "java/lang/invoke/MethodHandle" ∧ yX0_childWorth.cls ≠ "java/lang/invoke/VarHandle" ∧ (parseMethodDescriptor yX0_childWorth.desc).map (fun d => d.parameters.length) = some 1 ∧ 1 ≤ 21 := by decide +kernel
theorem yd_X6_init : yX6_init.cls ≠ "java/lang/invoke/MethodHandle" ∧ yX6_init.cls ≠ "java/lang/invoke/VarHandle" ∧ (parseMethodDescriptor yX6_init.desc).map (fun d => d.parameters.length) = some 0 ∧ 1 ≤ 21 := by decide +kernel
theorem yd_X1_joined : yX1_joined.cls ≠ "java/lang/invoke/MethodHandle" ∧ yX1_joined.cls ≠ "java/lang/invoke/VarHandle" ∧ (parseMethodDescriptor yX1_joined.desc).map (fun d => d.parameters.length) = some 3 ∧ 3 ≤ 21 := by decide +kernel
theorem yd_X3_goesOn : yX3_goesOn.cls ≠ "java/lang/invoke/MethodHandle" ∧ yX3_goesOn.cls ≠ "java/lang/invoke/VarHandle" ∧ (parseMethodDescriptor yX3_goesOn.desc).map (fun d => d.parameters.length) = some 0 ∧ 3 ≤ 21 := by decide +kernel
theorem yd_X3_keyHere : yX3_keyHere.cls ≠ "java/lang/invoke/MethodHandle" ∧ yX3_keyHere.cls ≠ "java/lang/invoke/VarHandle" ∧ (parseMethodDescriptor yX3_keyHere.desc).map (fun d => d.parameters.length) = some 0 ∧ 1 ≤ 21 := by decide +kernel
theorem yd_X6_begins : yX6_begins.cls ≠ "java/lang/invoke/MethodHandle" ∧ yX6_begins.cls ≠ "java/lang/invoke/VarHandle" ∧ (parseMethodDescriptor yX6_begins.desc).map (fun d => d.parameters.length) = some 1 ∧ 2 ≤ 21 := by decide +kernel
theorem yd_X3_readsOr : yX3_readsOr.cls ≠ "java/lang/invoke/MethodHandle" ∧ yX3_readsOr.cls ≠ "java/lang/invoke/VarHandle" ∧ (parseMethodDescriptor yX3_readsOr.desc).map (fun d => d.parameters.length) = some 0 ∧ 3 ≤ 21 := by decide +kernel
theorem yd_X3_isLetter : yX3_isLetter.cls ≠ "java/lang/invoke/MethodHandle" ∧ yX3_isLetter.cls ≠ "java/lang/invoke/VarHandle" ∧ (parseMethodDescriptor yX3_isLetter.desc).map (fun d => d.parameters.length) = some 1 ∧ 2 ≤ 21 := by decide +kernel
theorem yd_X3_isDigit : yX3_isDigit.cls ≠ "java/lang/invoke/MethodHandle" ∧ yX3_isDigit.cls ≠ "java/lang/invoke/VarHandle" ∧ (parseMethodDescriptor yX3_isDigit.desc).map (fun d => d.parameters.length) = some 1 ∧ 2 ≤ 21 := by decide +kernel
theorem yd_X3_isWord : yX3_isWord.cls ≠ "java/lang/invoke/MethodHandle" ∧ yX3_isWord.cls ≠ "java/lang/invoke/VarHandle" ∧ (parseMethodDescriptor yX3_isWord.desc).map (fun d => d.parameters.length) = some 1 ∧ 3 ≤ 21 := by decide +kernel
theorem yd_J0_length_8abf5 : yJ0_length_8abf5.cls ≠ "java/lang/invoke/MethodHandle" ∧ yJ0_length_8abf5.cls ≠ "java/lang/invoke/VarHandle" ∧ (parseMethodDescriptor yJ0_length_8abf5.desc).map (fun d => d.parameters.length) = some 0 ∧ 1 ≤ 21 := by decide +kernel
theorem yd_J0_charAt_5068e : yJ0_charAt_5068e.cls ≠ "java/lang/invoke/MethodHandle" ∧ yJ0_charAt_5068e.cls ≠ "java/lang/invoke/VarHandle" ∧ (parseMethodDescriptor yJ0_charAt_5068e.desc).map (fun d => d.parameters.length) = some 1 ∧ 2 ≤ 21 := by decide +kernel
theorem yd_J0_indexOf_0f7a4 : yJ0_indexOf_0f7a4.cls ≠ "java/lang/invoke/MethodHandle" ∧ yJ0_indexOf_0f7a4.cls ≠ "java/lang/invoke/VarHandle" ∧ (parseMethodDescriptor yJ0_indexOf_0f7a4.desc).map (fun d => d.parameters.length) = some 1 ∧ 2 ≤ 21 := by decide +kernel
theorem yd_X3_readsAnd : yX3_readsAnd.cls ≠ "java/lang/invoke/MethodHandle" ∧ yX3_readsAnd.cls ≠ "java/lang/invoke/VarHandle" ∧ (parseMethodDescriptor yX3_readsAnd.desc).map (fun d => d.parameters.length) = some 0 ∧ 3 ≤ 21 := by decide +kernel
theorem yd_X3_isSign : yX3_isSign.cls ≠ "java/lang/invoke/MethodHandle" ∧ yX3_isSign.cls ≠ "java/lang/invoke/VarHandle" ∧ (parseMethodDescriptor yX3_isSign.desc).map (fun d => d.parameters.length) = some 1 ∧ 2 ≤ 21 := by decide +kernel
theorem yd_X6_adds : yX6_adds.cls ≠ "java/lang/invoke/MethodHandle" ∧ yX6_adds.cls ≠ "java/lang/invoke/VarHandle" ∧ (parseMethodDescriptor yX6_adds.desc).map (fun d => d.parameters.length) = some 1 ∧ 2 ≤ 21 := by decide +kernel
theorem yd_X3_readsTest : yX3_readsTest.cls ≠ "java/lang/invoke/MethodHandle" ∧ yX3_readsTest.cls ≠ "java/lang/invoke/VarHandle" ∧ (parseMethodDescriptor yX3_readsTest.desc).map (fun d => d.parameters.length) = some 0 ∧ 3 ≤ 21 := by decide +kernel
theorem yd_X3_readsSum : yX3_readsSum.cls ≠ "java/lang/invoke/MethodHandle" ∧ yX3_readsSum.cls ≠ "java/lang/invoke/VarHandle" ∧ (parseMethodDescriptor yX3_readsSum.desc).map (fun d => d.parameters.length) = some 0 ∧ 4 ≤ 21 := by decide +kernel
theorem yd_X3_readsTerm : yX3_readsTerm.cls ≠ "java/lang/invoke/MethodHandle" ∧ yX3_readsTerm.cls ≠ "java/lang/invoke/VarHandle" ∧ (parseMethodDescriptor yX3_readsTerm.desc).map (fun d => d.parameters.length) = some 0 ∧ 4 ≤ 21 := by decide +kernel
theorem yd_X3_readsPiece : yX3_readsPiece.cls ≠ "java/lang/invoke/MethodHandle" ∧ yX3_readsPiece.cls ≠ "java/lang/invoke/VarHandle" ∧ (parseMethodDescriptor yX3_readsPiece.desc).map (fun d => d.parameters.length) = some 0 ∧ 2 ≤ 21 := by decide +kernel
theorem yd_X3_readsNot : yX3_readsNot.cls ≠ "java/lang/invoke/MethodHandle" ∧ yX3_readsNot.cls ≠ "java/lang/invoke/VarHandle" ∧ (parseMethodDescriptor yX3_readsNot.desc).map (fun d => d.parameters.length) = some 0 ∧ 2 ≤ 21 := by decide +kernel
theorem yd_X3_readsParen : yX3_readsParen.cls ≠ "java/lang/invoke/MethodHandle" ∧ yX3_readsParen.cls ≠ "java/lang/invoke/VarHandle" ∧ (parseMethodDescriptor yX3_readsParen.desc).map (fun d => d.parameters.length) = some 0 ∧ 2 ≤ 21 := by decide +kernel
theorem yd_X3_nameHere : yX3_nameHere.cls ≠ "java/lang/invoke/MethodHandle" ∧ yX3_nameHere.cls ≠ "java/lang/invoke/VarHandle" ∧ (parseMethodDescriptor yX3_nameHere.desc).map (fun d => d.parameters.length) = some 0 ∧ 2 ≤ 21 := by decide +kernel
theorem yd_X3_numberHere : yX3_numberHere.cls ≠ "java/lang/invoke/MethodHandle" ∧ yX3_numberHere.cls ≠ "java/lang/invoke/VarHandle" ∧ (parseMethodDescriptor yX3_numberHere.desc).map (fun d => d.parameters.length) = some 0 ∧ 3 ≤ 21 := by decide +kernel
theorem yd_X7_flows : yX7_flows.cls ≠ "java/lang/invoke/MethodHandle" ∧ yX7_flows.cls ≠ "java/lang/invoke/VarHandle" ∧ (parseMethodDescriptor yX7_flows.desc).map (fun d => d.parameters.length) = some 1 ∧ 6 ≤ 21 := by decide +kernel
theorem yd_X7_feasts : yX7_feasts.cls ≠ "java/lang/invoke/MethodHandle" ∧ yX7_feasts.cls ≠ "java/lang/invoke/VarHandle" ∧ (parseMethodDescriptor yX7_feasts.desc).map (fun d => d.parameters.length) = some 1 ∧ 4 ≤ 21 := by decide +kernel
theorem yd_X7_miceEat : yX7_miceEat.cls ≠ "java/lang/invoke/MethodHandle" ∧ yX7_miceEat.cls ≠ "java/lang/invoke/VarHandle" ∧ (parseMethodDescriptor yX7_miceEat.desc).map (fun d => d.parameters.length) = some 0 ∧ 2 ≤ 21 := by decide +kernel
theorem yd_X2_beside : yX2_beside.cls ≠ "java/lang/invoke/MethodHandle" ∧ yX2_beside.cls ≠ "java/lang/invoke/VarHandle" ∧ (parseMethodDescriptor yX2_beside.desc).map (fun d => d.parameters.length) = some 2 ∧ 2 ≤ 21 := by decide +kernel
theorem yd_X7_fullestBeside : yX7_fullestBeside.cls ≠ "java/lang/invoke/MethodHandle" ∧ yX7_fullestBeside.cls ≠ "java/lang/invoke/VarHandle" ∧ (parseMethodDescriptor yX7_fullestBeside.desc).map (fun d => d.parameters.length) = some 2 ∧ 7 ≤ 21 := by decide +kernel
theorem yd_X9_init : yX9_init.cls ≠ "java/lang/invoke/MethodHandle" ∧ yX9_init.cls ≠ "java/lang/invoke/VarHandle" ∧ (parseMethodDescriptor yX9_init.desc).map (fun d => d.parameters.length) = some 0 ∧ 2 ≤ 21 := by decide +kernel
theorem yd_X10_init : yX10_init.cls ≠ "java/lang/invoke/MethodHandle" ∧ yX10_init.cls ≠ "java/lang/invoke/VarHandle" ∧ (parseMethodDescriptor yX10_init.desc).map (fun d => d.parameters.length) = some 0 ∧ 2 ≤ 21 := by decide +kernel
theorem yd_X9_eater : yX9_eater.cls ≠ "java/lang/invoke/MethodHandle" ∧ yX9_eater.cls ≠ "java/lang/invoke/VarHandle" ∧ (parseMethodDescriptor yX9_eater.desc).map (fun d => d.parameters.length) = some 2 ∧ 3 ≤ 21 := by decide +kernel
theorem yd_X10_eater : yX10_eater.cls ≠ "java/lang/invoke/MethodHandle" ∧ yX10_eater.cls ≠ "java/lang/invoke/VarHandle" ∧ (parseMethodDescriptor yX10_eater.desc).map (fun d => d.parameters.length) = some 2 ∧ 3 ≤ 21 := by decide +kernel
theorem yd_X9_told : yX9_told.cls ≠ "java/lang/invoke/MethodHandle" ∧ yX9_told.cls ≠ "java/lang/invoke/VarHandle" ∧ (parseMethodDescriptor yX9_told.desc).map (fun d => d.parameters.length) = some 2 ∧ 4 ≤ 21 := by decide +kernel
theorem yd_X10_told : yX10_told.cls ≠ "java/lang/invoke/MethodHandle" ∧ yX10_told.cls ≠ "java/lang/invoke/VarHandle" ∧ (parseMethodDescriptor yX10_told.desc).map (fun d => d.parameters.length) = some 2 ∧ 3 ≤ 21 := by decide +kernel
theorem yd_X9_cell : yX9_cell.cls ≠ "java/lang/invoke/MethodHandle" ∧ yX9_cell.cls ≠ "java/lang/invoke/VarHandle" ∧ (parseMethodDescriptor yX9_cell.desc).map (fun d => d.parameters.length) = some 2 ∧ 3 ≤ 21 := by decide +kernel
theorem yd_X10_cell : yX10_cell.cls ≠ "java/lang/invoke/MethodHandle" ∧ yX10_cell.cls ≠ "java/lang/invoke/VarHandle" ∧ (parseMethodDescriptor yX10_cell.desc).map (fun d => d.parameters.length) = some 2 ∧ 3 ≤ 21 := by decide +kernel
theorem yd_X9_lays : yX9_lays.cls ≠ "java/lang/invoke/MethodHandle" ∧ yX9_lays.cls ≠ "java/lang/invoke/VarHandle" ∧ (parseMethodDescriptor yX9_lays.desc).map (fun d => d.parameters.length) = some 3 ∧ 6 ≤ 21 := by decide +kernel
theorem yd_X10_lays : yX10_lays.cls ≠ "java/lang/invoke/MethodHandle" ∧ yX10_lays.cls ≠ "java/lang/invoke/VarHandle" ∧ (parseMethodDescriptor yX10_lays.desc).map (fun d => d.parameters.length) = some 3 ∧ 4 ≤ 21 := by decide +kernel
theorem yd_X9_as : yX9_as.cls ≠ "java/lang/invoke/MethodHandle" ∧ yX9_as.cls ≠ "java/lang/invoke/VarHandle" ∧ (parseMethodDescriptor yX9_as.desc).map (fun d => d.parameters.length) = some 2 ∧ 3 ≤ 21 := by decide +kernel
theorem yd_X10_as : yX10_as.cls ≠ "java/lang/invoke/MethodHandle" ∧ yX10_as.cls ≠ "java/lang/invoke/VarHandle" ∧ (parseMethodDescriptor yX10_as.desc).map (fun d => d.parameters.length) = some 2 ∧ 3 ≤ 21 := by decide +kernel
theorem yd_X9_turns : yX9_turns.cls ≠ "java/lang/invoke/MethodHandle" ∧ yX9_turns.cls ≠ "java/lang/invoke/VarHandle" ∧ (parseMethodDescriptor yX9_turns.desc).map (fun d => d.parameters.length) = some 2 ∧ 4 ≤ 21 := by decide +kernel
theorem yd_X10_turns : yX10_turns.cls ≠ "java/lang/invoke/MethodHandle" ∧ yX10_turns.cls ≠ "java/lang/invoke/VarHandle" ∧ (parseMethodDescriptor yX10_turns.desc).map (fun d => d.parameters.length) = some 2 ∧ 3 ≤ 21 := by decide +kernel
theorem yd_X9_sends : yX9_sends.cls ≠ "java/lang/invoke/MethodHandle" ∧ yX9_sends.cls ≠ "java/lang/invoke/VarHandle" ∧ (parseMethodDescriptor yX9_sends.desc).map (fun d => d.parameters.length) = some 2 ∧ 4 ≤ 21 := by decide +kernel
theorem yd_X10_sends : yX10_sends.cls ≠ "java/lang/invoke/MethodHandle" ∧ yX10_sends.cls ≠ "java/lang/invoke/VarHandle" ∧ (parseMethodDescriptor yX10_sends.desc).map (fun d => d.parameters.length) = some 2 ∧ 3 ≤ 21 := by decide +kernel
theorem yd_X9_cook : yX9_cook.cls ≠ "java/lang/invoke/MethodHandle" ∧ yX9_cook.cls ≠ "java/lang/invoke/VarHandle" ∧ (parseMethodDescriptor yX9_cook.desc).map (fun d => d.parameters.length) = some 1 ∧ 3 ≤ 21 := by decide +kernel
theorem yd_X10_cook : yX10_cook.cls ≠ "java/lang/invoke/MethodHandle" ∧ yX10_cook.cls ≠ "java/lang/invoke/VarHandle" ∧ (parseMethodDescriptor yX10_cook.desc).map (fun d => d.parameters.length) = some 1 ∧ 2 ≤ 21 := by decide +kernel
theorem yd_X9_say : yX9_say.cls ≠ "java/lang/invoke/MethodHandle" ∧ yX9_say.cls ≠ "java/lang/invoke/VarHandle" ∧ (parseMethodDescriptor yX9_say.desc).map (fun d => d.parameters.length) = some 1 ∧ 3 ≤ 21 := by decide +kernel
theorem yd_X10_say : yX10_say.cls ≠ "java/lang/invoke/MethodHandle" ∧ yX10_say.cls ≠ "java/lang/invoke/VarHandle" ∧ (parseMethodDescriptor yX10_say.desc).map (fun d => d.parameters.length) = some 1 ∧ 3 ≤ 21 := by decide +kernel
theorem yd_X9_rule : yX9_rule.cls ≠ "java/lang/invoke/MethodHandle" ∧ yX9_rule.cls ≠ "java/lang/invoke/VarHandle" ∧ (parseMethodDescriptor yX9_rule.desc).map (fun d => d.parameters.length) = some 2 ∧ 4 ≤ 21 := by decide +kernel
theorem yd_X10_rule : yX10_rule.cls ≠ "java/lang/invoke/MethodHandle" ∧ yX10_rule.cls ≠ "java/lang/invoke/VarHandle" ∧ (parseMethodDescriptor yX10_rule.desc).map (fun d => d.parameters.length) = some 2 ∧ 3 ≤ 21 := by decide +kernel
theorem yd_X9_deal : yX9_deal.cls ≠ "java/lang/invoke/MethodHandle" ∧ yX9_deal.cls ≠ "java/lang/invoke/VarHandle" ∧ (parseMethodDescriptor yX9_deal.desc).map (fun d => d.parameters.length) = some 1 ∧ 5 ≤ 21 := by decide +kernel
theorem yd_X10_deal : yX10_deal.cls ≠ "java/lang/invoke/MethodHandle" ∧ yX10_deal.cls ≠ "java/lang/invoke/VarHandle" ∧ (parseMethodDescriptor yX10_deal.desc).map (fun d => d.parameters.length) = some 1 ∧ 4 ≤ 21 := by decide +kernel
theorem yd_X9_seed : yX9_seed.cls ≠ "java/lang/invoke/MethodHandle" ∧ yX9_seed.cls ≠ "java/lang/invoke/VarHandle" ∧ (parseMethodDescriptor yX9_seed.desc).map (fun d => d.parameters.length) = some 1 ∧ 3 ≤ 21 := by decide +kernel
theorem yd_X10_seed : yX10_seed.cls ≠ "java/lang/invoke/MethodHandle" ∧ yX10_seed.cls ≠ "java/lang/invoke/VarHandle" ∧ (parseMethodDescriptor yX10_seed.desc).map (fun d => d.parameters.length) = some 1 ∧ 2 ≤ 21 := by decide +kernel
theorem yd_X9_minutes : yX9_minutes.cls ≠ "java/lang/invoke/MethodHandle" ∧ yX9_minutes.cls ≠ "java/lang/invoke/VarHandle" ∧ (parseMethodDescriptor yX9_minutes.desc).map (fun d => d.parameters.length) = some 1 ∧ 3 ≤ 21 := by decide +kernel
theorem yd_X10_minutes : yX10_minutes.cls ≠ "java/lang/invoke/MethodHandle" ∧ yX10_minutes.cls ≠ "java/lang/invoke/VarHandle" ∧ (parseMethodDescriptor yX10_minutes.desc).map (fun d => d.parameters.length) = some 1 ∧ 4 ≤ 21 := by decide +kernel
theorem yd_X9_town : yX9_town.cls ≠ "java/lang/invoke/MethodHandle" ∧ yX9_town.cls ≠ "java/lang/invoke/VarHandle" ∧ (parseMethodDescriptor yX9_town.desc).map (fun d => d.parameters.length) = some 1 ∧ 2 ≤ 21 := by decide +kernel
theorem yd_X10_town : yX10_town.cls ≠ "java/lang/invoke/MethodHandle" ∧ yX10_town.cls ≠ "java/lang/invoke/VarHandle" ∧ (parseMethodDescriptor yX10_town.desc).map (fun d => d.parameters.length) = some 1 ∧ 2 ≤ 21 := by decide +kernel
theorem yd_X9_path : yX9_path.cls ≠ "java/lang/invoke/MethodHandle" ∧ yX9_path.cls ≠ "java/lang/invoke/VarHandle" ∧ (parseMethodDescriptor yX9_path.desc).map (fun d => d.parameters.length) = some 3 ∧ 4 ≤ 21 := by decide +kernel
theorem yd_X10_path : yX10_path.cls ≠ "java/lang/invoke/MethodHandle" ∧ yX10_path.cls ≠ "java/lang/invoke/VarHandle" ∧ (parseMethodDescriptor yX10_path.desc).map (fun d => d.parameters.length) = some 3 ∧ 8 ≤ 21 := by decide +kernel
theorem yd_X9_behind : yX9_behind.cls ≠ "java/lang/invoke/MethodHandle" ∧ yX9_behind.cls ≠ "java/lang/invoke/VarHandle" ∧ (parseMethodDescriptor yX9_behind.desc).map (fun d => d.parameters.length) = some 2 ∧ 3 ≤ 21 := by decide +kernel
theorem yd_X10_behind : yX10_behind.cls ≠ "java/lang/invoke/MethodHandle" ∧ yX10_behind.cls ≠ "java/lang/invoke/VarHandle" ∧ (parseMethodDescriptor yX10_behind.desc).map (fun d => d.parameters.length) = some 2 ∧ 4 ≤ 21 := by decide +kernel
theorem yd_X9_wets : yX9_wets.cls ≠ "java/lang/invoke/MethodHandle" ∧ yX9_wets.cls ≠ "java/lang/invoke/VarHandle" ∧ (parseMethodDescriptor yX9_wets.desc).map (fun d => d.parameters.length) = some 1 ∧ 3 ≤ 21 := by decide +kernel
theorem yd_X10_wets : yX10_wets.cls ≠ "java/lang/invoke/MethodHandle" ∧ yX10_wets.cls ≠ "java/lang/invoke/VarHandle" ∧ (parseMethodDescriptor yX10_wets.desc).map (fun d => d.parameters.length) = some 1 ∧ 4 ≤ 21 := by decide +kernel
theorem yd_X9_deepest : yX9_deepest.cls ≠ "java/lang/invoke/MethodHandle" ∧ yX9_deepest.cls ≠ "java/lang/invoke/VarHandle" ∧ (parseMethodDescriptor yX9_deepest.desc).map (fun d => d.parameters.length) = some 2 ∧ 5 ≤ 21 := by decide +kernel
theorem yd_X10_deepest : yX10_deepest.cls ≠ "java/lang/invoke/MethodHandle" ∧ yX10_deepest.cls ≠ "java/lang/invoke/VarHandle" ∧ (parseMethodDescriptor yX10_deepest.desc).map (fun d => d.parameters.length) = some 2 ∧ 5 ≤ 21 := by decide +kernel
theorem yd_X9_walled : yX9_walled.cls ≠ "java/lang/invoke/MethodHandle" ∧ yX9_walled.cls ≠ "java/lang/invoke/VarHandle" ∧ (parseMethodDescriptor yX9_walled.desc).map (fun d => d.parameters.length) = some 3 ∧ 7 ≤ 21 := by decide +kernel
theorem yd_X10_walled : yX10_walled.cls ≠ "java/lang/invoke/MethodHandle" ∧ yX10_walled.cls ≠ "java/lang/invoke/VarHandle" ∧ (parseMethodDescriptor yX10_walled.desc).map (fun d => d.parameters.length) = some 3 ∧ 8 ≤ 21 := by decide +kernel
theorem yd_X9_enough : yX9_enough.cls ≠ "java/lang/invoke/MethodHandle" ∧ yX9_enough.cls ≠ "java/lang/invoke/VarHandle" ∧ (parseMethodDescriptor yX9_enough.desc).map (fun d => d.parameters.length) = some 2 ∧ 5 ≤ 21 := by decide +kernel
theorem yd_X10_enough : yX10_enough.cls ≠ "java/lang/invoke/MethodHandle" ∧ yX10_enough.cls ≠ "java/lang/invoke/VarHandle" ∧ (parseMethodDescriptor yX10_enough.desc).map (fun d => d.parameters.length) = some 2 ∧ 5 ≤ 21 := by decide +kernel
theorem yd_X9_stood : yX9_stood.cls ≠ "java/lang/invoke/MethodHandle" ∧ yX9_stood.cls ≠ "java/lang/invoke/VarHandle" ∧ (parseMethodDescriptor yX9_stood.desc).map (fun d => d.parameters.length) = some 3 ∧ 8 ≤ 21 := by decide +kernel
theorem yd_X10_stood : yX10_stood.cls ≠ "java/lang/invoke/MethodHandle" ∧ yX10_stood.cls ≠ "java/lang/invoke/VarHandle" ∧ (parseMethodDescriptor yX10_stood.desc).map (fun d => d.parameters.length) = some 3 ∧ 10 ≤ 21 := by decide +kernel
theorem yd_X9_fee : yX9_fee.cls ≠ "java/lang/invoke/MethodHandle" ∧ yX9_fee.cls ≠ "java/lang/invoke/VarHandle" ∧ (parseMethodDescriptor yX9_fee.desc).map (fun d => d.parameters.length) = some 0 ∧ 3 ≤ 21 := by decide +kernel
theorem yd_X10_fee : yX10_fee.cls ≠ "java/lang/invoke/MethodHandle" ∧ yX10_fee.cls ≠ "java/lang/invoke/VarHandle" ∧ (parseMethodDescriptor yX10_fee.desc).map (fun d => d.parameters.length) = some 0 ∧ 2 ≤ 21 := by decide +kernel
theorem yd_X9_fine : yX9_fine.cls ≠ "java/lang/invoke/MethodHandle" ∧ yX9_fine.cls ≠ "java/lang/invoke/VarHandle" ∧ (parseMethodDescriptor yX9_fine.desc).map (fun d => d.parameters.length) = some 1 ∧ 4 ≤ 21 := by decide +kernel
theorem yd_X10_fine : yX10_fine.cls ≠ "java/lang/invoke/MethodHandle" ∧ yX10_fine.cls ≠ "java/lang/invoke/VarHandle" ∧ (parseMethodDescriptor yX10_fine.desc).map (fun d => d.parameters.length) = some 1 ∧ 3 ≤ 21 := by decide +kernel
theorem yd_X9_feed : yX9_feed.cls ≠ "java/lang/invoke/MethodHandle" ∧ yX9_feed.cls ≠ "java/lang/invoke/VarHandle" ∧ (parseMethodDescriptor yX9_feed.desc).map (fun d => d.parameters.length) = some 3 ∧ 4 ≤ 21 := by decide +kernel
theorem yd_X10_feed : yX10_feed.cls ≠ "java/lang/invoke/MethodHandle" ∧ yX10_feed.cls ≠ "java/lang/invoke/VarHandle" ∧ (parseMethodDescriptor yX10_feed.desc).map (fun d => d.parameters.length) = some 3 ∧ 6 ≤ 21 := by decide +kernel
theorem yd_X9_trim : yX9_trim.cls ≠ "java/lang/invoke/MethodHandle" ∧ yX9_trim.cls ≠ "java/lang/invoke/VarHandle" ∧ (parseMethodDescriptor yX9_trim.desc).map (fun d => d.parameters.length) = some 1 ∧ 2 ≤ 21 := by decide +kernel
theorem yd_X10_trim : yX10_trim.cls ≠ "java/lang/invoke/MethodHandle" ∧ yX10_trim.cls ≠ "java/lang/invoke/VarHandle" ∧ (parseMethodDescriptor yX10_trim.desc).map (fun d => d.parameters.length) = some 1 ∧ 2 ≤ 21 := by decide +kernel
theorem yd_X9_text : yX9_text.cls ≠ "java/lang/invoke/MethodHandle" ∧ yX9_text.cls ≠ "java/lang/invoke/VarHandle" ∧ (parseMethodDescriptor yX9_text.desc).map (fun d => d.parameters.length) = some 0 ∧ 2 ≤ 21 := by decide +kernel
theorem yd_X10_text : yX10_text.cls ≠ "java/lang/invoke/MethodHandle" ∧ yX10_text.cls ≠ "java/lang/invoke/VarHandle" ∧ (parseMethodDescriptor yX10_text.desc).map (fun d => d.parameters.length) = some 0 ∧ 3 ≤ 21 := by decide +kernel
theorem yd_X9_textTold : yX9_textTold.cls ≠ "java/lang/invoke/MethodHandle" ∧ yX9_textTold.cls ≠ "java/lang/invoke/VarHandle" ∧ (parseMethodDescriptor yX9_textTold.desc).map (fun d => d.parameters.length) = some 2 ∧ 4 ≤ 21 := by decide +kernel
theorem yd_X10_textTold : yX10_textTold.cls ≠ "java/lang/invoke/MethodHandle" ∧ yX10_textTold.cls ≠ "java/lang/invoke/VarHandle" ∧ (parseMethodDescriptor yX10_textTold.desc).map (fun d => d.parameters.length) = some 2 ∧ 3 ≤ 21 := by decide +kernel
theorem yd_X9_why : yX9_why.cls ≠ "java/lang/invoke/MethodHandle" ∧ yX9_why.cls ≠ "java/lang/invoke/VarHandle" ∧ (parseMethodDescriptor yX9_why.desc).map (fun d => d.parameters.length) = some 1 ∧ 3 ≤ 21 := by decide +kernel
theorem yd_X10_why : yX10_why.cls ≠ "java/lang/invoke/MethodHandle" ∧ yX10_why.cls ≠ "java/lang/invoke/VarHandle" ∧ (parseMethodDescriptor yX10_why.desc).map (fun d => d.parameters.length) = some 1 ∧ 2 ≤ 21 := by decide +kernel
theorem yd_X9_sheet : yX9_sheet.cls ≠ "java/lang/invoke/MethodHandle" ∧ yX9_sheet.cls ≠ "java/lang/invoke/VarHandle" ∧ (parseMethodDescriptor yX9_sheet.desc).map (fun d => d.parameters.length) = some 3 ∧ 4 ≤ 21 := by decide +kernel
theorem yd_X10_sheet : yX10_sheet.cls ≠ "java/lang/invoke/MethodHandle" ∧ yX10_sheet.cls ≠ "java/lang/invoke/VarHandle" ∧ (parseMethodDescriptor yX10_sheet.desc).map (fun d => d.parameters.length) = some 3 ∧ 5 ≤ 21 := by decide +kernel
theorem yd_X9_mark : yX9_mark.cls ≠ "java/lang/invoke/MethodHandle" ∧ yX9_mark.cls ≠ "java/lang/invoke/VarHandle" ∧ (parseMethodDescriptor yX9_mark.desc).map (fun d => d.parameters.length) = some 3 ∧ 5 ≤ 21 := by decide +kernel
theorem yd_X10_mark : yX10_mark.cls ≠ "java/lang/invoke/MethodHandle" ∧ yX10_mark.cls ≠ "java/lang/invoke/VarHandle" ∧ (parseMethodDescriptor yX10_mark.desc).map (fun d => d.parameters.length) = some 3 ∧ 4 ≤ 21 := by decide +kernel
theorem yd_X9_pour : yX9_pour.cls ≠ "java/lang/invoke/MethodHandle" ∧ yX9_pour.cls ≠ "java/lang/invoke/VarHandle" ∧ (parseMethodDescriptor yX9_pour.desc).map (fun d => d.parameters.length) = some 1 ∧ 2 ≤ 21 := by decide +kernel
theorem yd_X10_pour : yX10_pour.cls ≠ "java/lang/invoke/MethodHandle" ∧ yX10_pour.cls ≠ "java/lang/invoke/VarHandle" ∧ (parseMethodDescriptor yX10_pour.desc).map (fun d => d.parameters.length) = some 1 ∧ 6 ≤ 21 := by decide +kernel
theorem yd_X9_reads : yX9_reads.cls ≠ "java/lang/invoke/MethodHandle" ∧ yX9_reads.cls ≠ "java/lang/invoke/VarHandle" ∧ (parseMethodDescriptor yX9_reads.desc).map (fun d => d.parameters.length) = some 1 ∧ 2 ≤ 21 := by decide +kernel
theorem yd_X10_reads : yX10_reads.cls ≠ "java/lang/invoke/MethodHandle" ∧ yX10_reads.cls ≠ "java/lang/invoke/VarHandle" ∧ (parseMethodDescriptor yX10_reads.desc).map (fun d => d.parameters.length) = some 1 ∧ 4 ≤ 21 := by decide +kernel
theorem yd_X9_copy : yX9_copy.cls ≠ "java/lang/invoke/MethodHandle" ∧ yX9_copy.cls ≠ "java/lang/invoke/VarHandle" ∧ (parseMethodDescriptor yX9_copy.desc).map (fun d => d.parameters.length) = some 5 ∧ 8 ≤ 21 := by decide +kernel
theorem yd_X10_copy : yX10_copy.cls ≠ "java/lang/invoke/MethodHandle" ∧ yX10_copy.cls ≠ "java/lang/invoke/VarHandle" ∧ (parseMethodDescriptor yX10_copy.desc).map (fun d => d.parameters.length) = some 5 ∧ 7 ≤ 21 := by decide +kernel
theorem yd_X9_lay : yX9_lay.cls ≠ "java/lang/invoke/MethodHandle" ∧ yX9_lay.cls ≠ "java/lang/invoke/VarHandle" ∧ (parseMethodDescriptor yX9_lay.desc).map (fun d => d.parameters.length) = some 3 ∧ 6 ≤ 21 := by decide +kernel
theorem yd_X10_lay : yX10_lay.cls ≠ "java/lang/invoke/MethodHandle" ∧ yX10_lay.cls ≠ "java/lang/invoke/VarHandle" ∧ (parseMethodDescriptor yX10_lay.desc).map (fun d => d.parameters.length) = some 3 ∧ 7 ≤ 21 := by decide +kernel
theorem yd_X9_ask : yX9_ask.cls ≠ "java/lang/invoke/MethodHandle" ∧ yX9_ask.cls ≠ "java/lang/invoke/VarHandle" ∧ (parseMethodDescriptor yX9_ask.desc).map (fun d => d.parameters.length) = some 2 ∧ 5 ≤ 21 := by decide +kernel
theorem yd_X10_ask : yX10_ask.cls ≠ "java/lang/invoke/MethodHandle" ∧ yX10_ask.cls ≠ "java/lang/invoke/VarHandle" ∧ (parseMethodDescriptor yX10_ask.desc).map (fun d => d.parameters.length) = some 2 ∧ 3 ≤ 21 := by decide +kernel
theorem yd_X9_item : yX9_item.cls ≠ "java/lang/invoke/MethodHandle" ∧ yX9_item.cls ≠ "java/lang/invoke/VarHandle" ∧ (parseMethodDescriptor yX9_item.desc).map (fun d => d.parameters.length) = some 2 ∧ 5 ≤ 21 := by decide +kernel
theorem yd_X10_item : yX10_item.cls ≠ "java/lang/invoke/MethodHandle" ∧ yX10_item.cls ≠ "java/lang/invoke/VarHandle" ∧ (parseMethodDescriptor yX10_item.desc).map (fun d => d.parameters.length) = some 2 ∧ 4 ≤ 21 := by decide +kernel
theorem yd_X9_rest : yX9_rest.cls ≠ "java/lang/invoke/MethodHandle" ∧ yX9_rest.cls ≠ "java/lang/invoke/VarHandle" ∧ (parseMethodDescriptor yX9_rest.desc).map (fun d => d.parameters.length) = some 2 ∧ 4 ≤ 21 := by decide +kernel
theorem yd_X10_rest : yX10_rest.cls ≠ "java/lang/invoke/MethodHandle" ∧ yX10_rest.cls ≠ "java/lang/invoke/VarHandle" ∧ (parseMethodDescriptor yX10_rest.desc).map (fun d => d.parameters.length) = some 2 ∧ 3 ≤ 21 := by decide +kernel
theorem yd_X9_tell : yX9_tell.cls ≠ "java/lang/invoke/MethodHandle" ∧ yX9_tell.cls ≠ "java/lang/invoke/VarHandle" ∧ (parseMethodDescriptor yX9_tell.desc).map (fun d => d.parameters.length) = some 1 ∧ 2 ≤ 21 := by decide +kernel
theorem yd_X10_tell : yX10_tell.cls ≠ "java/lang/invoke/MethodHandle" ∧ yX10_tell.cls ≠ "java/lang/invoke/VarHandle" ∧ (parseMethodDescriptor yX10_tell.desc).map (fun d => d.parameters.length) = some 1 ∧ 2 ≤ 21 := by decide +kernel
theorem yd_X9_check : yX9_check.cls ≠ "java/lang/invoke/MethodHandle" ∧ yX9_check.cls ≠ "java/lang/invoke/VarHandle" ∧ (parseMethodDescriptor yX9_check.desc).map (fun d => d.parameters.length) = some 1 ∧ 5 ≤ 21 := by decide +kernel
theorem yd_X10_check : yX10_check.cls ≠ "java/lang/invoke/MethodHandle" ∧ yX10_check.cls ≠ "java/lang/invoke/VarHandle" ∧ (parseMethodDescriptor yX10_check.desc).map (fun d => d.parameters.length) = some 1 ∧ 5 ≤ 21 := by decide +kernel
theorem yd_X9_keep : yX9_keep.cls ≠ "java/lang/invoke/MethodHandle" ∧ yX9_keep.cls ≠ "java/lang/invoke/VarHandle" ∧ (parseMethodDescriptor yX9_keep.desc).map (fun d => d.parameters.length) = some 0 ∧ 1 ≤ 21 := by decide +kernel
theorem yd_X10_keep : yX10_keep.cls ≠ "java/lang/invoke/MethodHandle" ∧ yX10_keep.cls ≠ "java/lang/invoke/VarHandle" ∧ (parseMethodDescriptor yX10_keep.desc).map (fun d => d.parameters.length) = some 0 ∧ 1 ≤ 21 := by decide +kernel
theorem yd_X9_back : yX9_back.cls ≠ "java/lang/invoke/MethodHandle" ∧ yX9_back.cls ≠ "java/lang/invoke/VarHandle" ∧ (parseMethodDescriptor yX9_back.desc).map (fun d => d.parameters.length) = some 0 ∧ 1 ≤ 21 := by decide +kernel
theorem yd_X10_back : yX10_back.cls ≠ "java/lang/invoke/MethodHandle" ∧ yX10_back.cls ≠ "java/lang/invoke/VarHandle" ∧ (parseMethodDescriptor yX10_back.desc).map (fun d => d.parameters.length) = some 0 ∧ 1 ≤ 21 := by decide +kernel
theorem yd_X9_count : yX9_count.cls ≠ "java/lang/invoke/MethodHandle" ∧ yX9_count.cls ≠ "java/lang/invoke/VarHandle" ∧ (parseMethodDescriptor yX9_count.desc).map (fun d => d.parameters.length) = some 1 ∧ 2 ≤ 21 := by decide +kernel
theorem yd_X10_count : yX10_count.cls ≠ "java/lang/invoke/MethodHandle" ∧ yX10_count.cls ≠ "java/lang/invoke/VarHandle" ∧ (parseMethodDescriptor yX10_count.desc).map (fun d => d.parameters.length) = some 1 ∧ 2 ≤ 21 := by decide +kernel
theorem yd_J0_isLatin1_aae02 : yJ0_isLatin1_aae02.cls ≠ "java/lang/invoke/MethodHandle" ∧ yJ0_isLatin1_aae02.cls ≠ "java/lang/invoke/VarHandle" ∧ (parseMethodDescriptor yJ0_isLatin1_aae02.desc).map (fun d => d.parameters.length) = some 0 ∧ 1 ≤ 21 := by decide +kernel
theorem yd_J1_charAt_3b067 : yJ1_charAt_3b067.cls ≠ "java/lang/invoke/MethodHandle" ∧ yJ1_charAt_3b067.cls ≠ "java/lang/invoke/VarHandle" ∧ (parseMethodDescriptor yJ1_charAt_3b067.desc).map (fun d => d.parameters.length) = some 2 ∧ 2 ≤ 21 := by decide +kernel
theorem yd_J0_indexOf_7cf53 : yJ0_indexOf_7cf53.cls ≠ "java/lang/invoke/MethodHandle" ∧ yJ0_indexOf_7cf53.cls ≠ "java/lang/invoke/VarHandle" ∧ (parseMethodDescriptor yJ0_indexOf_7cf53.desc).map (fun d => d.parameters.length) = some 2 ∧ 3 ≤ 21 := by decide +kernel
theorem yd_J1_indexOf_4cfef : yJ1_indexOf_4cfef.cls ≠ "java/lang/invoke/MethodHandle" ∧ yJ1_indexOf_4cfef.cls ≠ "java/lang/invoke/VarHandle" ∧ (parseMethodDescriptor yJ1_indexOf_4cfef.desc).map (fun d => d.parameters.length) = some 4 ∧ 4 ≤ 21 := by decide +kernel
theorem yd_J0_coder_7d493 : yJ0_coder_7d493.cls ≠ "java/lang/invoke/MethodHandle" ∧ yJ0_coder_7d493.cls ≠ "java/lang/invoke/VarHandle" ∧ (parseMethodDescriptor yJ0_coder_7d493.desc).map (fun d => d.parameters.length) = some 0 ∧ 1 ≤ 21 := by decide +kernel
theorem yd_J0_checkIndex_df160 : yJ0_checkIndex_df160.cls ≠ "java/lang/invoke/MethodHandle" ∧ yJ0_checkIndex_df160.cls ≠ "java/lang/invoke/VarHandle" ∧ (parseMethodDescriptor yJ0_checkIndex_df160.desc).map (fun d => d.parameters.length) = some 2 ∧ 2 ≤ 21 := by decide +kernel
theorem yd_J1_canEncode_9a6ad : yJ1_canEncode_9a6ad.cls ≠ "java/lang/invoke/MethodHandle" ∧ yJ1_canEncode_9a6ad.cls ≠ "java/lang/invoke/VarHandle" ∧ (parseMethodDescriptor yJ1_canEncode_9a6ad.desc).map (fun d => d.parameters.length) = some 1 ∧ 1 ≤ 21 := by decide +kernel
theorem yd_J1_indexOfChar_4cfef : yJ1_indexOfChar_4cfef.cls ≠ "java/lang/invoke/MethodHandle" ∧ yJ1_indexOfChar_4cfef.cls ≠ "java/lang/invoke/VarHandle" ∧ (parseMethodDescriptor yJ1_indexOfChar_4cfef.desc).map (fun d => d.parameters.length) = some 4 ∧ 6 ≤ 21 := by decide +kernel
theorem ok_X9_9 : pz_okIN RX9 9 yX1_init cX1_init 1 0 "LittlePot" := ⟨(pz_f3 w92 w64 w93), yd_X1_init, rfl, (List.mem_of_getElem? (i := 91) (by decide +kernel))⟩
theorem ok_X9_18 : pz_okI RX9 18 yX7_init cX7_init 2 1 := ⟨(pz_f4 w107 w108 w65 w109), yd_X7_init, rfl⟩
theorem ok_X9_36 : pz_okIN RX9 36 yX3_init cX3_init 1 0 "LittlePot" := ⟨(pz_f3 w170 w66 w171), yd_X3_init, rfl, (List.mem_of_getElem? (i := 169) (by decide +kernel))⟩
theorem ok_X9_43 : pz_okIN RX9 43 yX8_init cX8_init 1 0 "LittlePot" := ⟨(pz_f3 w230 w68 w231), yd_X8_init, rfl, (List.mem_of_getElem? (i := 229) (by decide +kernel))⟩
theorem ok_X9_64 : pz_okIN RX9 64 yX4_init cX4_init 1 0 "LittlePot" := ⟨(pz_f3 w246 w69 w247), yd_X4_init, rfl, (List.mem_of_getElem? (i := 245) (by decide +kernel))⟩
theorem ok_X9_65 : pz_okIN RX9 65 yX5_init cX5_init 1 0 "LittlePot" := ⟨(pz_f3 w263 w70 w264), yd_X5_init, rfl, (List.mem_of_getElem? (i := 262) (by decide +kernel))⟩
theorem ok_X9_66 : pz_okS RX9 66 yX0_isKind cX0_isKind 1 (some .boolean) 1 := ⟨(pz_f4 w326 w327 w72 w328), yd_X0_isKind⟩
theorem ok_X9_72 : pz_okS RX9 72 yX9_isCell cX9_isCell 1 (some .boolean) 1 := ⟨(pz_f4 w332 w333 w63 w334), yd_X9_isCell⟩
theorem ok_X9_80 : pz_okV RX9 80 yX7_comes cX7_comes 4 (some .int) 2 := ⟨(pz_f5 w337 w338 w339 w65 w340), yd_X7_comes⟩
theorem ok_X9_85 : pz_okV RX9 85 yX7_hasEater cX7_hasEater 2 (some .boolean) 1 := ⟨(pz_f5 w346 w347 w348 w65 w349), yd_X7_hasEater⟩
theorem ok_X9_100 : pz_okS RX9 100 yX0_eats cX0_eats 2 (some .int) 2 := ⟨(pz_f4 w351 w352 w72 w353), yd_X0_eats⟩
theorem ok_X9_103 : pz_okS RX9 103 yX0_wades cX0_wades 1 (some .int) 1 := ⟨(pz_f4 w354 w355 w72 w356), yd_X0_wades⟩
theorem ok_X9_107 : pz_okS RX9 107 yX0_worth cX0_worth 2 (some .int) 2 := ⟨(pz_f4 w357 w358 w72 w359), yd_X0_worth⟩
theorem ok_X9_110 : pz_okS RX9 110 yX9_within cX9_within 3 (some .boolean) 3 := ⟨(pz_f4 w335 w330 w63 w331), yd_X9_within⟩
theorem ok_X9_114 : pz_okV RX9 114 yX7_level cX7_level 2 (some .int) 1 := ⟨(pz_f5 w370 w371 w372 w65 w373), yd_X7_level⟩
theorem ok_X9_117 : pz_okV RX9 117 yX7_laid cX7_laid 2 (some (.array .int)) 1 := ⟨(pz_f5 w374 w375 w376 w65 w377), yd_X7_laid⟩
theorem ok_X9_124 : pz_okS RX9 124 yX0_isUnder cX0_isUnder 4 (some .boolean) 2 := ⟨(pz_f4 w388 w389 w72 w390), yd_X0_isUnder⟩
theorem ok_X9_148 : pz_okV RX9 148 yX7_draw cX7_draw 1 (some .int) 0 := ⟨(pz_f5 w425 w426 w427 w65 w428), yd_X7_draw⟩
theorem ok_X9_155 : pz_okV RX9 155 yX7_allAte cX7_allAte 3 (some .int) 0 := ⟨(pz_f5 w438 w439 w440 w65 w441), yd_X7_allAte⟩
theorem ok_X9_161 : pz_okV RX9 161 yX7_passes cX7_passes 3 none 1 := ⟨(pz_f5 w442 w443 w444 w65 w445), yd_X7_passes⟩
theorem ok_X9_165 : pz_okV RX9 165 yX7_allParts cX7_allParts 3 (some .int) 0 := ⟨(pz_f5 w509 w510 w511 w65 w512), yd_X7_allParts⟩
theorem ok_X9_168 : pz_okV RX9 168 yX7_wetCells cX7_wetCells 3 (some .int) 0 := ⟨(pz_f5 w513 w514 w515 w65 w516), yd_X7_wetCells⟩
theorem ok_X9_171 : pz_okV RX9 171 yX7_pours cX7_pours 3 (some .int) 0 := ⟨(pz_f5 w517 w451 w452 w65 w453), yd_X7_pours⟩
theorem ok_X9_174 : pz_okV RX9 174 yX8_fewest cX8_fewest 9 (some .int) 4 := ⟨(pz_f5 w522 w523 w524 w68 w525), yd_X8_fewest⟩
theorem ok_X9_178 : pz_okV RX9 178 yX7_becomes cX7_becomes 2 none 1 := ⟨(pz_f5 w532 w533 w534 w65 w535), yd_X7_becomes⟩
theorem ok_X9_182 : pz_okV RX9 182 yX7_pass cX7_pass 2 none 0 := ⟨(pz_f5 w543 w447 w448 w65 w449), yd_X7_pass⟩
theorem ok_X9_190 : pz_okS RX9 190 yX9_isSheet cX9_isSheet 1 (some .boolean) 1 := ⟨(pz_f4 w562 w563 w63 w564), yd_X9_isSheet⟩
theorem ok_X9_193 : pz_okV RX9 193 yX4_isMissing cX4_isMissing 1 (some .boolean) 0 := ⟨(pz_f5 w565 w566 w567 w69 w568), yd_X4_isMissing⟩
theorem ok_X9_198 : pz_okV RX9 198 yX4_differsFrom cX4_differsFrom 4 (some .int) 1 := ⟨(pz_f5 w570 w571 w572 w69 w573), yd_X4_differsFrom⟩
theorem ok_X9_205 : pz_okV RX9 205 yX1_counting cX1_counting 3 (some (.object "LittlePot$Text")) 2 := ⟨(pz_f5 w586 w455 w456 w64 w457), yd_X1_counting⟩
theorem ok_X9_209 : pz_okV RX9 209 yX1_given cX1_given 8 (some .int) 4 := ⟨(pz_f5 w587 w469 w470 w64 w471), yd_X1_given⟩
theorem ok_X9_216 : pz_okV RX9 216 yX3_getsNumber cX3_getsNumber 3 none 1 := ⟨(pz_f5 w596 w597 w598 w66 w599), yd_X3_getsNumber⟩
theorem ok_X9_219 : pz_okV RX9 219 yX3_findsFault cX3_findsFault 2 (some .int) 0 := ⟨(pz_f5 w608 w609 w610 w66 w611), yd_X3_findsFault⟩
theorem ok_X9_226 : pz_okV RX9 226 yX1_takes cX1_takes 4 (some (.object "LittlePot$Text")) 2 := ⟨(pz_f5 w794 w795 w796 w64 w797), yd_X1_takes⟩
theorem ok_X9_230 : pz_okV RX9 230 yX1_numbered cX1_numbered 2 (some (.object "LittlePot$Text")) 1 := ⟨(pz_f5 w803 w464 w465 w64 w466), yd_X1_numbered⟩
theorem ok_X9_242 : pz_okV RX9 242 yX1_last cX1_last 4 (some .int) 2 := ⟨(pz_f5 w808 w459 w460 w64 w461), yd_X1_last⟩
theorem ok_X9_245 : pz_okV RX9 245 yX4_becomes cX4_becomes 4 none 2 := ⟨(pz_f5 w813 w814 w815 w69 w816), yd_X4_becomes⟩
theorem ok_X9_249 : pz_okV RX9 249 yX4_hasPlace cX4_hasPlace 2 (some .boolean) 1 := ⟨(pz_f5 w822 w823 w824 w69 w825), yd_X4_hasPlace⟩
theorem ok_X9_262 : pz_okV RX9 262 yX4_poursInto cX4_poursInto 5 (some .int) 1 := ⟨(pz_f5 w834 w835 w836 w69 w837), yd_X4_poursInto⟩
theorem ok_X9_265 : pz_okV RX9 265 yX4_firstUnlike cX4_firstUnlike 3 (some .int) 1 := ⟨(pz_f5 w845 w846 w847 w69 w848), yd_X4_firstUnlike⟩
theorem ok_X9_268 : pz_okV RX9 268 yX4_hasPlaces cX4_hasPlaces 3 (some .boolean) 2 := ⟨(pz_f5 w853 w854 w855 w69 w856), yd_X4_hasPlaces⟩
theorem ok_X9_277 : pz_okS RX9 277 yX9_isSlot cX9_isSlot 1 (some .boolean) 1 := ⟨(pz_f4 w862 w863 w63 w864), yd_X9_isSlot⟩
theorem ok_X9_293 : pz_okV RX9 293 yX4_becomes_ cX4_becomes_ 2 none 1 := ⟨(pz_f5 w865 w866 w867 w69 w868), yd_X4_becomes_⟩
theorem ok_X9_299 : pz_okV RX9 299 yX9_unlessHeld cX9_unlessHeld 3 (some .int) 2 := ⟨(pz_f5 w874 w876 w20 w63 w877), yd_X9_unlessHeld⟩
theorem ok_X9_302 : pz_okV RX9 302 yX4_isNumber cX4_isNumber 2 (some .boolean) 1 := ⟨(pz_f5 w882 w575 w576 w69 w577), yd_X4_isNumber⟩
theorem ok_X9_311 : pz_okV RX9 311 yX9_waited cX9_waited 4 (some .boolean) 3 := ⟨(pz_f5 w895 w897 w21 w63 w898), yd_X9_waited⟩
theorem ok_X10_71 : pz_okS RX10 71 yX10_isIn cX10_isIn 6 (some .boolean) 3 := ⟨(pz_f4 w1022 w1023 w71 w1024), yd_X10_isIn⟩
theorem ok_X10_78 : pz_okV RX10 78 yX10_parts cX10_parts 2 (some .int) 1 := ⟨(pz_f5 w1055 w1057 w27 w71 w1058), yd_X10_parts⟩
theorem ok_X10_82 : pz_okV RX10 82 yX10_sets cX10_sets 4 none 3 := ⟨(pz_f5 w1035 w1037 w23 w71 w1038), yd_X10_sets⟩
theorem ok_X10_88 : pz_okS RX10 88 yX10_isCell cX10_isCell 1 (some .boolean) 1 := ⟨(pz_f4 w1025 w1026 w71 w1027), yd_X10_isCell⟩
theorem ok_X10_94 : pz_okV RX10 94 yX10_comes cX10_comes 4 none 2 := ⟨(pz_f5 w1031 w1033 w22 w71 w1034), yd_X10_comes⟩
theorem ok_X10_98 : pz_okV RX10 98 yX10_of cX10_of 3 (some .int) 2 := ⟨(pz_f5 w1047 w1049 w25 w71 w1050), yd_X10_of⟩
theorem ok_X10_102 : pz_okV RX10 102 yX10_isEater cX10_isEater 2 (some .boolean) 1 := ⟨(pz_f5 w1043 w1045 w24 w71 w1046), yd_X10_isEater⟩
theorem ok_X10_105 : pz_okV RX10 105 yX10_eats cX10_eats 2 (some .int) 1 := ⟨(pz_f5 w1051 w1053 w26 w71 w1054), yd_X10_eats⟩
theorem ok_X10_108 : pz_okV RX10 108 yX10_wades cX10_wades 2 (some .int) 1 := ⟨(pz_f5 w1059 w1061 w28 w71 w1062), yd_X10_wades⟩
theorem ok_X10_111 : pz_okV RX10 111 yX10_worth cX10_worth 3 (some .int) 1 := ⟨(pz_f5 w1063 w1065 w29 w71 w1066), yd_X10_worth⟩
theorem ok_X10_116 : pz_okV RX10 116 yX10_level cX10_level 2 (some .int) 1 := ⟨(pz_f5 w1072 w1074 w30 w71 w1075), yd_X10_level⟩
theorem ok_X10_125 : pz_okV RX10 125 yX10_becomes cX10_becomes 4 (some .int) 2 := ⟨(pz_f5 w1083 w1085 w31 w71 w1086), yd_X10_becomes⟩
theorem ok_X10_128 : pz_okS RX10 128 yX10_isOf cX10_isOf 2 (some .boolean) 2 := ⟨(pz_f4 w1091 w1092 w71 w1093), yd_X10_isOf⟩
theorem ok_X10_136 : pz_okS RX10 136 yX10_within cX10_within 2 (some .int) 2 := ⟨(pz_f4 w1113 w1114 w71 w1115), yd_X10_within⟩
theorem ok_X10_139 : pz_okS RX10 139 yX10_mostRule cX10_mostRule 1 (some .int) 1 := ⟨(pz_f4 w1120 w1121 w71 w1122), yd_X10_mostRule⟩
theorem ok_X10_144 : pz_okV RX10 144 yX10_drawn cX10_drawn 1 (some .int) 0 := ⟨(pz_f5 w1128 w1130 w32 w71 w1131), yd_X10_drawn⟩
theorem ok_X10_148 : pz_okV RX10 148 yX10_counts cX10_counts 4 (some .int) 1 := ⟨(pz_f5 w1150 w1152 w35 w71 w1153), yd_X10_counts⟩
theorem ok_X10_151 : pz_okV RX10 151 yX10_worked cX10_worked 6 (some .int) 1 := ⟨(pz_f5 w1158 w1160 w37 w71 w1161), yd_X10_worked⟩
theorem ok_X10_154 : pz_okS RX10 154 yX10_beside cX10_beside 2 (some .int) 2 := ⟨(pz_f4 w1169 w1170 w71 w1171), yd_X10_beside⟩
theorem ok_X10_157 : pz_okV RX10 157 yX10_pours cX10_pours 2 (some .int) 0 := ⟨(pz_f5 w1146 w1148 w34 w71 w1149), yd_X10_pours⟩
theorem ok_X10_160 : pz_okV RX10 160 yX10_flows cX10_flows 5 none 1 := ⟨(pz_f5 w1165 w1167 w38 w71 w1168), yd_X10_flows⟩
theorem ok_X10_164 : pz_okV RX10 164 yX10_dines cX10_dines 8 (some .int) 1 := ⟨(pz_f5 w1172 w1174 w39 w71 w1175), yd_X10_dines⟩
theorem ok_X10_167 : pz_okV RX10 167 yX10_goesOn cX10_goesOn 3 (some .int) 0 := ⟨(pz_f5 w1142 w1144 w33 w71 w1145), yd_X10_goesOn⟩
theorem ok_X10_172 : pz_okV RX10 172 yX10_allParts cX10_allParts 3 (some .int) 0 := ⟨(pz_f5 w1180 w1182 w40 w71 w1183), yd_X10_allParts⟩
theorem ok_X10_175 : pz_okV RX10 175 yX10_allAte cX10_allAte 3 (some .int) 0 := ⟨(pz_f5 w1184 w1186 w41 w71 w1187), yd_X10_allAte⟩
theorem ok_X10_178 : pz_okV RX10 178 yX10_manyWet cX10_manyWet 3 (some .int) 0 := ⟨(pz_f5 w1188 w1190 w42 w71 w1191), yd_X10_manyWet⟩
theorem ok_X10_183 : pz_okS RX10 183 yX10_orNone cX10_orNone 1 (some .int) 1 := ⟨(pz_f4 w1197 w1198 w71 w1199), yd_X10_orNone⟩
theorem ok_X10_188 : pz_okV RX10 188 yX10_laysBy cX10_laysBy 2 none 0 := ⟨(pz_f5 w1206 w1208 w43 w71 w1209), yd_X10_laysBy⟩
theorem ok_X10_191 : pz_okV RX10 191 yX10_goesOnMany cX10_goesOnMany 4 none 1 := ⟨(pz_f5 w1210 w1212 w44 w71 w1213), yd_X10_goesOnMany⟩
theorem ok_X10_194 : pz_okV RX10 194 yX10_laysBack cX10_laysBack 2 none 0 := ⟨(pz_f5 w1214 w1216 w45 w71 w1217), yd_X10_laysBack⟩
theorem ok_X10_220 : pz_okV RX10 220 yX10_isLetter cX10_isLetter 2 (some .boolean) 1 := ⟨(pz_f5 w1263 w1265 w48 w71 w1266), yd_X10_isLetter⟩
theorem ok_X10_226 : pz_okV RX10 226 yX10_isDigit cX10_isDigit 2 (some .boolean) 1 := ⟨(pz_f5 w1269 w1271 w49 w71 w1272), yd_X10_isDigit⟩
theorem ok_X10_232 : pz_okV RX10 232 yX10_isWordAt cX10_isWordAt 6 (some .boolean) 4 := ⟨(pz_f5 w1279 w1281 w51 w71 w1282), yd_X10_isWordAt⟩
theorem ok_X10_242 : pz_okV RX10 242 yX10_both cX10_both 2 (some .boolean) 1 := ⟨(pz_f5 w1287 w1289 w53 w71 w1290), yd_X10_both⟩
theorem ok_X10_245 : pz_okV RX10 245 yX10_isSign cX10_isSign 2 (some .boolean) 1 := ⟨(pz_f5 w1314 w1316 w59 w71 w1317), yd_X10_isSign⟩
theorem ok_X10_248 : pz_okV RX10 248 yX10_nextToken cX10_nextToken 3 none 0 := ⟨(pz_f5 w1259 w1261 w47 w71 w1262), yd_X10_nextToken⟩
theorem ok_X10_251 : pz_okV RX10 251 yX10_step cX10_step 3 none 2 := ⟨(pz_f5 w1307 w1309 w58 w71 w1310), yd_X10_step⟩
theorem ok_X10_254 : pz_okV RX10 254 yX10_test cX10_test 3 (some .boolean) 1 := ⟨(pz_f5 w1291 w1293 w54 w71 w1294), yd_X10_test⟩
theorem ok_X10_257 : pz_okV RX10 257 yX10_sum cX10_sum 3 (some .boolean) 1 := ⟨(pz_f5 w1295 w1297 w55 w71 w1298), yd_X10_sum⟩
theorem ok_X10_260 : pz_okV RX10 260 yX10_term cX10_term 3 (some .boolean) 1 := ⟨(pz_f5 w1299 w1301 w56 w71 w1302), yd_X10_term⟩
theorem ok_X10_263 : pz_okV RX10 263 yX10_part0 cX10_part0 2 (some .boolean) 1 := ⟨(pz_f5 w1303 w1305 w57 w71 w1306), yd_X10_part0⟩
theorem ok_X10_269 : pz_okS RX10 269 yX10_isName cX10_isName 2 (some .boolean) 2 := ⟨(pz_f4 w1311 w1312 w71 w1313), yd_X10_isName⟩
theorem ok_X10_278 : pz_okV RX10 278 yX10_either cX10_either 2 (some .boolean) 1 := ⟨(pz_f5 w1283 w1285 w52 w71 w1286), yd_X10_either⟩
theorem ok_X10_281 : pz_okV RX10 281 yX10_textAt cX10_textAt 2 (some .int) 1 := ⟨(pz_f5 w1154 w1156 w36 w71 w1157), yd_X10_textAt⟩
theorem ok_X10_284 : pz_okV RX10 284 yX10_key cX10_key 1 (some .int) 0 := ⟨(pz_f5 w1275 w1277 w50 w71 w1278), yd_X10_key⟩
theorem ok_X10_287 : pz_okV RX10 287 yX10_parse cX10_parse 3 (some .int) 0 := ⟨(pz_f5 w1255 w1257 w46 w71 w1258), yd_X10_parse⟩
theorem ok_X10_290 : pz_okV RX10 290 yX10_isText cX10_isText 2 (some .boolean) 1 := ⟨(pz_f5 w1322 w1324 w60 w71 w1325), yd_X10_isText⟩
theorem ok_X10_293 : pz_okS RX10 293 yX10_joined cX10_joined 3 (some .int) 3 := ⟨(pz_f4 w1162 w1163 w71 w1164), yd_X10_joined⟩
theorem ok_X10_297 : pz_okS RX10 297 yX10_isSheet cX10_isSheet 1 (some .boolean) 1 := ⟨(pz_f4 w1334 w1335 w71 w1336), yd_X10_isSheet⟩
theorem ok_X10_309 : pz_okS RX10 309 yX10_off cX10_off 2 (some .int) 2 := ⟨(pz_f4 w1359 w1360 w71 w1361), yd_X10_off⟩
theorem ok_X10_314 : pz_okS RX10 314 yX10_isSlot cX10_isSlot 1 (some .boolean) 1 := ⟨(pz_f4 w1370 w1371 w71 w1372), yd_X10_isSlot⟩
theorem ok_X10_326 : pz_okV RX10 326 yX10_setAside cX10_setAside 4 none 2 := ⟨(pz_f5 w1395 w1397 w61 w71 w1398), yd_X10_setAside⟩
theorem ok_X0_9 : pz_okSN RX0 9 yX9_within cX9_within 3 (some .boolean) 3 "LittlePot" := ⟨(pz_f3 w330 w63 w331), yd_X9_within, (List.mem_of_getElem? (i := 329) (by decide +kernel))⟩
theorem ok_X0_15 : pz_okS RX0 15 yX0_isKind cX0_isKind 1 (some .boolean) 1 := ⟨(pz_f4 w391 w327 w72 w328), yd_X0_isKind⟩
theorem ok_X0_23 : pz_okS RX0 23 yX0_gluttonWorth cX0_gluttonWorth 1 (some .int) 1 := ⟨(pz_f4 w360 w361 w72 w362), yd_X0_gluttonWorth⟩
theorem ok_X0_27 : pz_okS RX0 27 yX0_childWorth cX0_childWorth 1 (some .int) 1 := ⟨(pz_f4 w363 w364 w72 w365), yd_X0_childWorth⟩
theorem ok_X1_21 : pz_okSN RX1 21 yX9_within cX9_within 3 (some .boolean) 3 "LittlePot" := ⟨(pz_f3 w330 w63 w331), yd_X9_within, (List.mem_of_getElem? (i := 467) (by decide +kernel))⟩
theorem ok_X1_25 : pz_okIN RX1 25 yX6_init cX6_init 1 0 "LittlePot" := ⟨(pz_f3 w176 w67 w177), yd_X6_init, rfl, (List.mem_of_getElem? (i := 798) (by decide +kernel))⟩
theorem ok_X1_36 : pz_okV RX1 36 yX1_last cX1_last 4 (some .int) 2 := ⟨(pz_f5 w458 w459 w460 w64 w461), yd_X1_last⟩
theorem ok_X1_39 : pz_okV RX1 39 yX1_numbered cX1_numbered 2 (some (.object "LittlePot$Text")) 1 := ⟨(pz_f5 w463 w464 w465 w64 w466), yd_X1_numbered⟩
theorem ok_X1_49 : pz_okS RX1 49 yX1_joined cX1_joined 3 (some .int) 3 := ⟨(pz_f4 w472 w473 w64 w474), yd_X1_joined⟩
theorem ok_X3_11 : pz_okIN RX3 11 yX6_init cX6_init 1 0 "LittlePot" := ⟨(pz_f3 w176 w67 w177), yd_X6_init, rfl, (List.mem_of_getElem? (i := 175) (by decide +kernel))⟩
theorem ok_X3_41 : pz_okV RX3 41 yX3_goesOn cX3_goesOn 3 none 0 := ⟨(pz_f5 w612 w614 w4 w66 w615), yd_X3_goesOn⟩
theorem ok_X3_44 : pz_okV RX3 44 yX3_keyHere cX3_keyHere 1 (some .int) 0 := ⟨(pz_f5 w625 w627 w7 w66 w628), yd_X3_keyHere⟩
theorem ok_X3_48 : pz_okV RX3 48 yX6_begins cX6_begins 2 none 1 := ⟨(pz_f5 w684 w685 w686 w67 w687), yd_X6_begins⟩
theorem ok_X3_52 : pz_okV RX3 52 yX3_readsOr cX3_readsOr 3 (some .boolean) 0 := ⟨(pz_f5 w688 w690 w9 w66 w691), yd_X3_readsOr⟩
theorem ok_X3_56 : pz_okV RX3 56 yX3_isLetter cX3_isLetter 2 (some .boolean) 1 := ⟨(pz_f5 w616 w618 w5 w66 w619), yd_X3_isLetter⟩
theorem ok_X3_60 : pz_okV RX3 60 yX3_isDigit cX3_isDigit 2 (some .boolean) 1 := ⟨(pz_f5 w621 w623 w6 w66 w624), yd_X3_isDigit⟩
theorem ok_X3_63 : pz_okSN RX3 63 yX9_within cX9_within 3 (some .boolean) 3 "LittlePot" := ⟨(pz_f3 w330 w63 w331), yd_X9_within, (List.mem_of_getElem? (i := 620) (by decide +kernel))⟩
theorem ok_X3_69 : pz_okV RX3 69 yX3_isWord cX3_isWord 3 (some .boolean) 1 := ⟨(pz_f5 w630 w632 w8 w66 w633), yd_X3_isWord⟩
theorem ok_X3_79 : pz_okV RX3 79 yJ0_length_8abf5 cJ0_length_8abf5 1 (some .int) 0 := ⟨(pz_f5 w634 w635 w636 w76 w637), yd_J0_length_8abf5⟩
theorem ok_X3_83 : pz_okV RX3 83 yJ0_charAt_5068e cJ0_charAt_5068e 2 (some .char) 1 := ⟨(pz_f5 w644 w645 w646 w76 w647), yd_J0_charAt_5068e⟩
theorem ok_X3_96 : pz_okV RX3 96 yJ0_indexOf_0f7a4 cJ0_indexOf_0f7a4 2 (some .int) 1 := ⟨(pz_f5 w735 w736 w737 w76 w738), yd_J0_indexOf_0f7a4⟩
theorem ok_X3_100 : pz_okV RX3 100 yX3_readsAnd cX3_readsAnd 3 (some .boolean) 0 := ⟨(pz_f5 w692 w694 w10 w66 w695), yd_X3_readsAnd⟩
theorem ok_X3_103 : pz_okV RX3 103 yX3_isSign cX3_isSign 2 (some .boolean) 1 := ⟨(pz_f5 w712 w714 w15 w66 w715), yd_X3_isSign⟩
theorem ok_X3_107 : pz_okV RX3 107 yX6_adds cX6_adds 2 none 1 := ⟨(pz_f5 w720 w721 w722 w67 w723), yd_X6_adds⟩
theorem ok_X3_110 : pz_okV RX3 110 yX3_readsTest cX3_readsTest 3 (some .boolean) 0 := ⟨(pz_f5 w696 w698 w11 w66 w699), yd_X3_readsTest⟩
theorem ok_X3_113 : pz_okV RX3 113 yX3_readsSum cX3_readsSum 4 (some .boolean) 0 := ⟨(pz_f5 w700 w702 w12 w66 w703), yd_X3_readsSum⟩
theorem ok_X3_116 : pz_okV RX3 116 yX3_readsTerm cX3_readsTerm 4 (some .boolean) 0 := ⟨(pz_f5 w704 w706 w13 w66 w707), yd_X3_readsTerm⟩
theorem ok_X3_119 : pz_okV RX3 119 yX3_readsPiece cX3_readsPiece 2 (some .boolean) 0 := ⟨(pz_f5 w708 w710 w14 w66 w711), yd_X3_readsPiece⟩
theorem ok_X3_122 : pz_okV RX3 122 yX3_readsNot cX3_readsNot 2 (some .boolean) 0 := ⟨(pz_f5 w716 w718 w16 w66 w719), yd_X3_readsNot⟩
theorem ok_X3_125 : pz_okV RX3 125 yX3_readsParen cX3_readsParen 2 (some .boolean) 0 := ⟨(pz_f5 w724 w726 w17 w66 w727), yd_X3_readsParen⟩
theorem ok_X3_128 : pz_okV RX3 128 yX3_nameHere cX3_nameHere 2 (some .int) 0 := ⟨(pz_f5 w728 w730 w18 w66 w731), yd_X3_nameHere⟩
theorem ok_X3_131 : pz_okV RX3 131 yX3_numberHere cX3_numberHere 3 (some .int) 0 := ⟨(pz_f5 w790 w792 w19 w66 w793), yd_X3_numberHere⟩
theorem ok_X4_28 : pz_okSN RX4 28 yX9_within cX9_within 3 (some .boolean) 3 "LittlePot" := ⟨(pz_f3 w330 w63 w331), yd_X9_within, (List.mem_of_getElem? (i := 826) (by decide +kernel))⟩
theorem ok_X4_33 : pz_okV RX4 33 yX4_isNumber cX4_isNumber 2 (some .boolean) 1 := ⟨(pz_f5 w574 w575 w576 w69 w577), yd_X4_isNumber⟩
theorem ok_X5_9 : pz_okIN RX5 9 yX4_init cX4_init 1 0 "LittlePot" := ⟨(pz_f3 w246 w69 w247), yd_X4_init, rfl, (List.mem_of_getElem? (i := 267) (by decide +kernel))⟩
theorem ok_X7_63 : pz_okSN RX7 63 yX9_within cX9_within 3 (some .boolean) 3 "LittlePot" := ⟨(pz_f3 w330 w63 w331), yd_X9_within, (List.mem_of_getElem? (i := 350) (by decide +kernel))⟩
theorem ok_X7_69 : pz_okV RX7 69 yX1_counting cX1_counting 3 (some (.object "LittlePot$Text")) 2 := ⟨(pz_f5 w454 w455 w456 w64 w457), yd_X1_counting⟩
theorem ok_X7_73 : pz_okV RX7 73 yX1_given cX1_given 8 (some .int) 4 := ⟨(pz_f5 w468 w469 w470 w64 w471), yd_X1_given⟩
theorem ok_X7_87 : pz_okV RX7 87 yX7_pass cX7_pass 2 none 0 := ⟨(pz_f5 w446 w447 w448 w65 w449), yd_X7_pass⟩
theorem ok_X7_90 : pz_okV RX7 90 yX7_pours cX7_pours 3 (some .int) 0 := ⟨(pz_f5 w450 w451 w452 w65 w453), yd_X7_pours⟩
theorem ok_X7_94 : pz_okV RX7 94 yX7_flows cX7_flows 6 none 1 := ⟨(pz_f5 w479 w481 w0 w65 w482), yd_X7_flows⟩
theorem ok_X7_98 : pz_okV RX7 98 yX7_feasts cX7_feasts 4 none 1 := ⟨(pz_f5 w490 w492 w1 w65 w493), yd_X7_feasts⟩
theorem ok_X7_101 : pz_okV RX7 101 yX7_miceEat cX7_miceEat 2 none 0 := ⟨(pz_f5 w500 w502 w3 w65 w503), yd_X7_miceEat⟩
theorem ok_X7_107 : pz_okS RX7 107 yX2_beside cX2_beside 2 (some .int) 2 := ⟨(pz_f4 w484 w485 w74 w486), yd_X2_beside⟩
theorem ok_X7_110 : pz_okV RX7 110 yX7_level cX7_level 2 (some .int) 1 := ⟨(pz_f5 w489 w371 w372 w65 w373), yd_X7_level⟩
theorem ok_X7_114 : pz_okS RX7 114 yX0_eats cX0_eats 2 (some .int) 2 := ⟨(pz_f4 w494 w352 w72 w353), yd_X0_eats⟩
theorem ok_X7_119 : pz_okS RX7 119 yX0_wades cX0_wades 1 (some .int) 1 := ⟨(pz_f4 w495 w355 w72 w356), yd_X0_wades⟩
theorem ok_X7_122 : pz_okV RX7 122 yX7_fullestBeside cX7_fullestBeside 7 (some .int) 2 := ⟨(pz_f5 w496 w498 w2 w65 w499), yd_X7_fullestBeside⟩
theorem ok_X7_125 : pz_okV RX7 125 yX7_draw cX7_draw 1 (some .int) 0 := ⟨(pz_f5 w504 w426 w427 w65 w428), yd_X7_draw⟩
theorem ok_X8_21 : pz_okS RX8 21 yX2_beside cX2_beside 2 (some .int) 2 := ⟨(pz_f4 w527 w485 w74 w486), yd_X2_beside⟩
theorem ok_L_9 : pz_okI RL 9 yX9_init cX9_init 2 0 := ⟨(pz_f4 w83 w84 w63 w85), yd_X9_init, rfl⟩
theorem ok_L_12 : pz_okI RL 12 yX10_init cX10_init 2 0 := ⟨(pz_f4 w913 w914 w71 w915), yd_X10_init, rfl⟩
theorem ok_L_13 : pz_okV RL 13 yX9_eater cX9_eater 3 (some .int) 2 := ⟨(pz_f5 w322 w323 w324 w63 w325), yd_X9_eater⟩
theorem ok_L_17 : pz_okV RL 17 yX10_eater cX10_eater 3 (some .int) 2 := ⟨(pz_f5 w1017 w1018 w1019 w71 w1020), yd_X10_eater⟩
theorem ok_L_18 : pz_okV RL 18 yX9_told cX9_told 4 (some .int) 2 := ⟨(pz_f5 w342 w343 w344 w63 w345), yd_X9_told⟩
theorem ok_L_21 : pz_okV RL 21 yX10_told cX10_told 3 (some .int) 2 := ⟨(pz_f5 w1039 w1040 w1041 w71 w1042), yd_X10_told⟩
theorem ok_L_22 : pz_okV RL 22 yX9_cell cX9_cell 3 (some .int) 2 := ⟨(pz_f5 w366 w367 w368 w63 w369), yd_X9_cell⟩
theorem ok_L_25 : pz_okV RL 25 yX10_cell cX10_cell 3 (some .int) 2 := ⟨(pz_f5 w1067 w1068 w1069 w71 w1070), yd_X10_cell⟩
theorem ok_L_26 : pz_okV RL 26 yX9_lays cX9_lays 6 (some .int) 3 := ⟨(pz_f5 w378 w379 w380 w63 w381), yd_X9_lays⟩
theorem ok_L_30 : pz_okV RL 30 yX10_lays cX10_lays 4 (some .int) 3 := ⟨(pz_f5 w1076 w1077 w1078 w71 w1079), yd_X10_lays⟩
theorem ok_L_31 : pz_okV RL 31 yX9_as cX9_as 3 (some .int) 2 := ⟨(pz_f5 w384 w385 w386 w63 w387), yd_X9_as⟩
theorem ok_L_34 : pz_okV RL 34 yX10_as cX10_as 3 (some .int) 2 := ⟨(pz_f5 w1087 w1088 w1089 w71 w1090), yd_X10_as⟩
theorem ok_L_35 : pz_okV RL 35 yX9_turns cX9_turns 4 (some .int) 2 := ⟨(pz_f5 w395 w396 w397 w63 w398), yd_X9_turns⟩
theorem ok_L_38 : pz_okV RL 38 yX10_turns cX10_turns 3 (some .int) 2 := ⟨(pz_f5 w1095 w1096 w1097 w71 w1098), yd_X10_turns⟩
theorem ok_L_39 : pz_okV RL 39 yX9_sends cX9_sends 4 (some .int) 2 := ⟨(pz_f5 w399 w400 w401 w63 w402), yd_X9_sends⟩
theorem ok_L_42 : pz_okV RL 42 yX10_sends cX10_sends 3 (some .int) 2 := ⟨(pz_f5 w1099 w1100 w1101 w71 w1102), yd_X10_sends⟩
theorem ok_L_43 : pz_okV RL 43 yX9_cook cX9_cook 3 (some .int) 1 := ⟨(pz_f5 w403 w404 w405 w63 w406), yd_X9_cook⟩
theorem ok_L_47 : pz_okV RL 47 yX10_cook cX10_cook 2 (some .int) 1 := ⟨(pz_f5 w1103 w1104 w1105 w71 w1106), yd_X10_cook⟩
theorem ok_L_48 : pz_okV RL 48 yX9_say cX9_say 3 (some .int) 1 := ⟨(pz_f5 w407 w408 w409 w63 w410), yd_X9_say⟩
theorem ok_L_51 : pz_okV RL 51 yX10_say cX10_say 3 (some .int) 1 := ⟨(pz_f5 w1107 w1108 w1109 w71 w1110), yd_X10_say⟩
theorem ok_L_52 : pz_okV RL 52 yX9_rule cX9_rule 4 (some .int) 2 := ⟨(pz_f5 w417 w418 w419 w63 w420), yd_X9_rule⟩
theorem ok_L_55 : pz_okV RL 55 yX10_rule cX10_rule 3 (some .int) 2 := ⟨(pz_f5 w1116 w1117 w1118 w71 w1119), yd_X10_rule⟩
theorem ok_L_56 : pz_okV RL 56 yX9_deal cX9_deal 5 (some .int) 1 := ⟨(pz_f5 w421 w422 w423 w63 w424), yd_X9_deal⟩
theorem ok_L_59 : pz_okV RL 59 yX10_deal cX10_deal 4 (some .int) 1 := ⟨(pz_f5 w1123 w1124 w1125 w71 w1126), yd_X10_deal⟩
theorem ok_L_60 : pz_okV RL 60 yX9_seed cX9_seed 3 (some .int) 1 := ⟨(pz_f5 w430 w431 w432 w63 w433), yd_X9_seed⟩
theorem ok_L_63 : pz_okV RL 63 yX10_seed cX10_seed 2 (some .int) 1 := ⟨(pz_f5 w1133 w1134 w1135 w71 w1136), yd_X10_seed⟩
theorem ok_L_64 : pz_okV RL 64 yX9_minutes cX9_minutes 3 (some .int) 1 := ⟨(pz_f5 w434 w435 w436 w63 w437), yd_X9_minutes⟩
theorem ok_L_67 : pz_okV RL 67 yX10_minutes cX10_minutes 4 (some .int) 1 := ⟨(pz_f5 w1137 w1138 w1139 w71 w1140), yd_X10_minutes⟩
theorem ok_L_68 : pz_okV RL 68 yX9_town cX9_town 2 (some .int) 1 := ⟨(pz_f5 w505 w506 w507 w63 w508), yd_X9_town⟩
theorem ok_L_71 : pz_okV RL 71 yX10_town cX10_town 2 (some .int) 1 := ⟨(pz_f5 w1176 w1177 w1178 w71 w1179), yd_X10_town⟩
theorem ok_L_72 : pz_okV RL 72 yX9_path cX9_path 4 (some .int) 3 := ⟨(pz_f5 w518 w519 w520 w63 w521), yd_X9_path⟩
theorem ok_L_75 : pz_okV RL 75 yX10_path cX10_path 8 (some .int) 3 := ⟨(pz_f5 w1192 w1193 w1194 w71 w1195), yd_X10_path⟩
theorem ok_L_76 : pz_okV RL 76 yX9_behind cX9_behind 3 (some .int) 2 := ⟨(pz_f5 w528 w529 w530 w63 w531), yd_X9_behind⟩
theorem ok_L_79 : pz_okV RL 79 yX10_behind cX10_behind 4 (some .int) 2 := ⟨(pz_f5 w1201 w1202 w1203 w71 w1204), yd_X10_behind⟩
theorem ok_L_80 : pz_okV RL 80 yX9_wets cX9_wets 3 (some .int) 1 := ⟨(pz_f5 w539 w540 w541 w63 w542), yd_X9_wets⟩
theorem ok_L_83 : pz_okV RL 83 yX10_wets cX10_wets 4 (some .int) 1 := ⟨(pz_f5 w1218 w1219 w1220 w71 w1221), yd_X10_wets⟩
theorem ok_L_84 : pz_okV RL 84 yX9_deepest cX9_deepest 5 (some .int) 2 := ⟨(pz_f5 w545 w546 w547 w63 w548), yd_X9_deepest⟩
theorem ok_L_87 : pz_okV RL 87 yX10_deepest cX10_deepest 5 (some .int) 2 := ⟨(pz_f5 w1222 w1223 w1224 w71 w1225), yd_X10_deepest⟩
theorem ok_L_88 : pz_okV RL 88 yX9_walled cX9_walled 7 (some .int) 3 := ⟨(pz_f5 w549 w550 w551 w63 w552), yd_X9_walled⟩
theorem ok_L_91 : pz_okV RL 91 yX10_walled cX10_walled 8 (some .int) 3 := ⟨(pz_f5 w1226 w1227 w1228 w71 w1229), yd_X10_walled⟩
theorem ok_L_92 : pz_okV RL 92 yX9_enough cX9_enough 5 (some .int) 2 := ⟨(pz_f5 w554 w555 w556 w63 w557), yd_X9_enough⟩
theorem ok_L_95 : pz_okV RL 95 yX10_enough cX10_enough 5 (some .int) 2 := ⟨(pz_f5 w1230 w1231 w1232 w71 w1233), yd_X10_enough⟩
theorem ok_L_96 : pz_okV RL 96 yX9_stood cX9_stood 8 (some .int) 3 := ⟨(pz_f5 w558 w559 w560 w63 w561), yd_X9_stood⟩
theorem ok_L_99 : pz_okV RL 99 yX10_stood cX10_stood 10 (some .int) 3 := ⟨(pz_f5 w1355 w1356 w1357 w71 w1358), yd_X10_stood⟩
theorem ok_L_100 : pz_okV RL 100 yX9_fee cX9_fee 3 (some .int) 0 := ⟨(pz_f5 w582 w583 w584 w63 w585), yd_X9_fee⟩
theorem ok_L_104 : pz_okV RL 104 yX10_fee cX10_fee 2 (some .int) 0 := ⟨(pz_f5 w1235 w1236 w1237 w71 w1238), yd_X10_fee⟩
theorem ok_L_105 : pz_okV RL 105 yX9_fine cX9_fine 4 (some .int) 1 := ⟨(pz_f5 w588 w589 w590 w63 w591), yd_X9_fine⟩
theorem ok_L_108 : pz_okV RL 108 yX10_fine cX10_fine 3 (some .int) 1 := ⟨(pz_f5 w1239 w1240 w1241 w71 w1242), yd_X10_fine⟩
theorem ok_L_109 : pz_okV RL 109 yX9_feed cX9_feed 4 (some .int) 3 := ⟨(pz_f5 w592 w593 w594 w63 w595), yd_X9_feed⟩
theorem ok_L_112 : pz_okV RL 112 yX10_feed cX10_feed 6 (some .int) 3 := ⟨(pz_f5 w1243 w1244 w1245 w71 w1246), yd_X10_feed⟩
theorem ok_L_113 : pz_okV RL 113 yX9_trim cX9_trim 2 (some .int) 1 := ⟨(pz_f5 w600 w601 w602 w63 w603), yd_X9_trim⟩
theorem ok_L_116 : pz_okV RL 116 yX10_trim cX10_trim 2 (some .int) 1 := ⟨(pz_f5 w1247 w1248 w1249 w71 w1250), yd_X10_trim⟩
theorem ok_L_117 : pz_okV RL 117 yX9_text cX9_text 2 (some .int) 0 := ⟨(pz_f5 w604 w605 w606 w63 w607), yd_X9_text⟩
theorem ok_L_120 : pz_okV RL 120 yX10_text cX10_text 3 (some .int) 0 := ⟨(pz_f5 w1251 w1252 w1253 w71 w1254), yd_X10_text⟩
theorem ok_L_121 : pz_okV RL 121 yX9_textTold cX9_textTold 4 (some .int) 2 := ⟨(pz_f5 w799 w800 w801 w63 w802), yd_X9_textTold⟩
theorem ok_L_124 : pz_okV RL 124 yX10_textTold cX10_textTold 3 (some .int) 2 := ⟨(pz_f5 w1318 w1319 w1320 w71 w1321), yd_X10_textTold⟩
theorem ok_L_125 : pz_okV RL 125 yX9_why cX9_why 3 (some .int) 1 := ⟨(pz_f5 w804 w805 w806 w63 w807), yd_X9_why⟩
theorem ok_L_128 : pz_okV RL 128 yX10_why cX10_why 2 (some .int) 1 := ⟨(pz_f5 w1326 w1327 w1328 w71 w1329), yd_X10_why⟩
theorem ok_L_129 : pz_okV RL 129 yX9_sheet cX9_sheet 4 (some .int) 3 := ⟨(pz_f5 w809 w810 w811 w63 w812), yd_X9_sheet⟩
theorem ok_L_132 : pz_okV RL 132 yX10_sheet cX10_sheet 5 (some .int) 3 := ⟨(pz_f5 w1330 w1331 w1332 w71 w1333), yd_X10_sheet⟩
theorem ok_L_133 : pz_okV RL 133 yX9_mark cX9_mark 5 (some .int) 3 := ⟨(pz_f5 w818 w819 w820 w63 w821), yd_X9_mark⟩
theorem ok_L_136 : pz_okV RL 136 yX10_mark cX10_mark 4 (some .int) 3 := ⟨(pz_f5 w1339 w1340 w1341 w71 w1342), yd_X10_mark⟩
theorem ok_L_137 : pz_okV RL 137 yX9_pour cX9_pour 2 (some .int) 1 := ⟨(pz_f5 w830 w831 w832 w63 w833), yd_X9_pour⟩
theorem ok_L_140 : pz_okV RL 140 yX10_pour cX10_pour 6 (some .int) 1 := ⟨(pz_f5 w1347 w1348 w1349 w71 w1350), yd_X10_pour⟩
theorem ok_L_141 : pz_okV RL 141 yX9_reads cX9_reads 2 (some .int) 1 := ⟨(pz_f5 w841 w842 w843 w63 w844), yd_X9_reads⟩
theorem ok_L_144 : pz_okV RL 144 yX10_reads cX10_reads 4 (some .int) 1 := ⟨(pz_f5 w1351 w1352 w1353 w71 w1354), yd_X10_reads⟩
theorem ok_L_145 : pz_okV RL 145 yX9_copy cX9_copy 8 (some .int) 5 := ⟨(pz_f5 w849 w850 w851 w63 w852), yd_X9_copy⟩
theorem ok_L_149 : pz_okV RL 149 yX10_copy cX10_copy 7 (some .int) 5 := ⟨(pz_f5 w1362 w1363 w1364 w71 w1365), yd_X10_copy⟩
theorem ok_L_150 : pz_okV RL 150 yX9_lay cX9_lay 6 (some .int) 3 := ⟨(pz_f5 w858 w859 w860 w63 w861), yd_X9_lay⟩
theorem ok_L_153 : pz_okV RL 153 yX10_lay cX10_lay 7 (some .int) 3 := ⟨(pz_f5 w1366 w1367 w1368 w71 w1369), yd_X10_lay⟩
theorem ok_L_154 : pz_okV RL 154 yX9_ask cX9_ask 5 (some .int) 2 := ⟨(pz_f5 w870 w871 w872 w63 w873), yd_X9_ask⟩
theorem ok_L_157 : pz_okV RL 157 yX10_ask cX10_ask 3 (some .int) 2 := ⟨(pz_f5 w1374 w1375 w1376 w71 w1377), yd_X10_ask⟩
theorem ok_L_158 : pz_okV RL 158 yX9_item cX9_item 5 (some .int) 2 := ⟨(pz_f5 w878 w879 w880 w63 w881), yd_X9_item⟩
theorem ok_L_161 : pz_okV RL 161 yX10_item cX10_item 4 (some .int) 2 := ⟨(pz_f5 w1378 w1379 w1380 w71 w1381), yd_X10_item⟩
theorem ok_L_162 : pz_okV RL 162 yX9_rest cX9_rest 4 (some .int) 2 := ⟨(pz_f5 w883 w884 w885 w63 w886), yd_X9_rest⟩
theorem ok_L_165 : pz_okV RL 165 yX10_rest cX10_rest 3 (some .int) 2 := ⟨(pz_f5 w1382 w1383 w1384 w71 w1385), yd_X10_rest⟩
theorem ok_L_166 : pz_okV RL 166 yX9_tell cX9_tell 2 (some .int) 1 := ⟨(pz_f5 w887 w888 w889 w63 w890), yd_X9_tell⟩
theorem ok_L_169 : pz_okV RL 169 yX10_tell cX10_tell 2 (some .int) 1 := ⟨(pz_f5 w1386 w1387 w1388 w71 w1389), yd_X10_tell⟩
theorem ok_L_170 : pz_okV RL 170 yX9_check cX9_check 5 (some .int) 1 := ⟨(pz_f5 w891 w892 w893 w63 w894), yd_X9_check⟩
theorem ok_L_173 : pz_okV RL 173 yX10_check cX10_check 5 (some .int) 1 := ⟨(pz_f5 w1390 w1391 w1392 w71 w1393), yd_X10_check⟩
theorem ok_L_174 : pz_okV RL 174 yX9_keep cX9_keep 1 (some .int) 0 := ⟨(pz_f5 w899 w900 w901 w63 w902), yd_X9_keep⟩
theorem ok_L_177 : pz_okV RL 177 yX10_keep cX10_keep 1 (some .int) 0 := ⟨(pz_f5 w1399 w1400 w1401 w71 w1402), yd_X10_keep⟩
theorem ok_L_178 : pz_okV RL 178 yX9_back cX9_back 1 (some .int) 0 := ⟨(pz_f5 w903 w904 w905 w63 w906), yd_X9_back⟩
theorem ok_L_181 : pz_okV RL 181 yX10_back cX10_back 1 (some .int) 0 := ⟨(pz_f5 w1403 w1404 w1405 w71 w1406), yd_X10_back⟩
theorem ok_L_182 : pz_okV RL 182 yX9_count cX9_count 2 (some .int) 1 := ⟨(pz_f5 w907 w908 w909 w63 w910), yd_X9_count⟩
theorem ok_L_185 : pz_okV RL 185 yX10_count cX10_count 2 (some .int) 1 := ⟨(pz_f5 w1407 w1408 w1409 w71 w1410), yd_X10_count⟩
theorem ok_J0_492 : pz_okV RJ0 492 yJ0_isLatin1_aae02 cJ0_isLatin1_aae02 1 (some .boolean) 0 := ⟨(pz_f5 w648 w649 w650 w76 w651), yd_J0_isLatin1_aae02⟩
theorem ok_J0_495 : pz_okS RJ0 495 yJ1_charAt_3b067 cJ1_charAt_3b067 2 (some .char) 2 := ⟨(pz_f4 w652 w653 w77 w654), yd_J1_charAt_3b067⟩
theorem ok_J0_633 : pz_okV RJ0 633 yJ0_indexOf_7cf53 cJ0_indexOf_7cf53 3 (some .int) 2 := ⟨(pz_f5 w739 w740 w741 w76 w742), yd_J0_indexOf_7cf53⟩
theorem ok_J0_505 : pz_okV RJ0 505 yJ0_length_8abf5 cJ0_length_8abf5 1 (some .int) 0 := ⟨(pz_f5 w743 w635 w636 w76 w637), yd_J0_length_8abf5⟩
theorem ok_J0_637 : pz_okS RJ0 637 yJ1_indexOf_4cfef cJ1_indexOf_4cfef 4 (some .int) 4 := ⟨(pz_f4 w744 w745 w77 w746), yd_J1_indexOf_4cfef⟩
theorem ok_J0_335 : pz_okV RJ0 335 yJ0_coder_7d493 cJ0_coder_7d493 1 (some .byte) 0 := ⟨(pz_f5 w638 w639 w640 w76 w641), yd_J0_coder_7d493⟩
theorem ok_J1_9 : pz_okS RJ1 9 yJ0_checkIndex_df160 cJ0_checkIndex_df160 2 none 2 := ⟨(pz_f4 w655 w656 w76 w657), yd_J0_checkIndex_df160⟩
theorem ok_J1_88 : pz_okS RJ1 88 yJ1_canEncode_9a6ad cJ1_canEncode_9a6ad 1 (some .boolean) 1 := ⟨(pz_f4 w747 w748 w77 w749), yd_J1_canEncode_9a6ad⟩
theorem ok_J1_95 : pz_okS RJ1 95 yJ1_indexOfChar_4cfef cJ1_indexOfChar_4cfef 6 (some .int) 4 := ⟨(pz_f4 w752 w753 w77 w754), yd_J1_indexOfChar_4cfef⟩
abbrev KX9_init : pz_K := (RX9, cX9_init, 2, 3, "<init>", 68, 1327, none)
abbrev KX9_eater : pz_K := (RX9, cX9_eater, 3, 2, "eater", 0, 0, (some .int))
abbrev KX9_told : pz_K := (RX9, cX9_told, 4, 2, "told", 0, 0, (some .int))
abbrev KX9_cell : pz_K := (RX9, cX9_cell, 3, 2, "cell", 0, 0, (some .int))
abbrev KX9_lays : pz_K := (RX9, cX9_lays, 6, 2, "lays", 0, 0, (some .int))
abbrev KX9_as : pz_K := (RX9, cX9_as, 3, 3, "as", 0, 0, (some .int))
abbrev KX9_turns : pz_K := (RX9, cX9_turns, 4, 2, "turns", 0, 0, (some .int))
abbrev KX9_sends : pz_K := (RX9, cX9_sends, 4, 2, "sends", 0, 0, (some .int))
abbrev KX9_cook : pz_K := (RX9, cX9_cook, 3, 2, "cook", 0, 0, (some .int))
abbrev KX9_say : pz_K := (RX9, cX9_say, 3, 1, "say", 0, 0, (some .int))
abbrev KX9_rule : pz_K := (RX9, cX9_rule, 4, 1, "rule", 0, 0, (some .int))
abbrev KX9_deal : pz_K := (RX9, cX9_deal, 5, 1, "deal", 0, 0, (some .int))
abbrev KX9_seed : pz_K := (RX9, cX9_seed, 3, 0, "seed", 0, 0, (some .int))
abbrev KX9_minutes : pz_K := (RX9, cX9_minutes, 3, 6, "minutes", 0, 0, (some .int))
abbrev KX9_town : pz_K := (RX9, cX9_town, 2, 4, "town", 0, 0, (some .int))
abbrev KX9_path : pz_K := (RX9, cX9_path, 4, 2, "path", 0, 0, (some .int))
abbrev KX9_behind : pz_K := (RX9, cX9_behind, 3, 6, "behind", 0, 0, (some .int))
abbrev KX9_wets : pz_K := (RX9, cX9_wets, 3, 5, "wets", 0, 0, (some .int))
abbrev KX9_deepest : pz_K := (RX9, cX9_deepest, 5, 6, "deepest", 0, 0, (some .int))
abbrev KX9_walled : pz_K := (RX9, cX9_walled, 7, 6, "walled", 0, 0, (some .int))
abbrev KX9_enough : pz_K := (RX9, cX9_enough, 5, 6, "enough", 0, 0, (some .int))
abbrev KX9_stood : pz_K := (RX9, cX9_stood, 8, 6, "stood", 0, 0, (some .int))
abbrev KX9_fee : pz_K := (RX9, cX9_fee, 3, 3, "fee", 0, 0, (some .int))
abbrev KX9_fine : pz_K := (RX9, cX9_fine, 4, 3, "fine", 0, 0, (some .int))
abbrev KX9_feed : pz_K := (RX9, cX9_feed, 4, 1, "feed", 0, 0, (some .int))
abbrev KX9_trim : pz_K := (RX9, cX9_trim, 2, 1, "trim", 0, 0, (some .int))
abbrev KX9_text : pz_K := (RX9, cX9_text, 2, 163, "text", 2, 100, (some .int))
abbrev KX9_textTold : pz_K := (RX9, cX9_textTold, 4, 2, "textTold", 0, 0, (some .int))
abbrev KX9_why : pz_K := (RX9, cX9_why, 3, 2, "why", 0, 0, (some .int))
abbrev KX9_sheet : pz_K := (RX9, cX9_sheet, 4, 2, "sheet", 0, 0, (some .int))
abbrev KX9_mark : pz_K := (RX9, cX9_mark, 5, 2, "mark", 0, 0, (some .int))
abbrev KX9_pour : pz_K := (RX9, cX9_pour, 2, 2, "pour", 0, 0, (some .int))
abbrev KX9_reads : pz_K := (RX9, cX9_reads, 2, 2, "reads", 0, 0, (some .int))
abbrev KX9_copy : pz_K := (RX9, cX9_copy, 8, 2, "copy", 0, 0, (some .int))
abbrev KX9_lay : pz_K := (RX9, cX9_lay, 6, 2, "lay", 0, 0, (some .int))
abbrev KX9_ask : pz_K := (RX9, cX9_ask, 5, 3, "ask", 0, 0, (some .int))
abbrev KX9_item : pz_K := (RX9, cX9_item, 5, 3, "item", 0, 0, (some .int))
abbrev KX9_rest : pz_K := (RX9, cX9_rest, 4, 3, "rest", 0, 0, (some .int))
abbrev KX9_tell : pz_K := (RX9, cX9_tell, 2, 0, "tell", 0, 0, (some .int))
abbrev KX9_check : pz_K := (RX9, cX9_check, 5, 5, "check", 0, 0, (some .int))
abbrev KX9_keep : pz_K := (RX9, cX9_keep, 1, 2, "keep", 0, 0, (some .int))
abbrev KX9_back : pz_K := (RX9, cX9_back, 1, 2, "back", 0, 0, (some .int))
abbrev KX9_count : pz_K := (RX9, cX9_count, 2, 1, "count", 0, 0, (some .int))
abbrev KX9_within : pz_K := (RX9, cX9_within, 3, 0, "within", 0, 0, (some .boolean))
abbrev KX9_isCell : pz_K := (RX9, cX9_isCell, 1, 1, "isCell", 0, 0, (some .boolean))
abbrev KX9_isSheet : pz_K := (RX9, cX9_isSheet, 1, 1, "isSheet", 0, 0, (some .boolean))
abbrev KX9_isSlot : pz_K := (RX9, cX9_isSlot, 1, 1, "isSlot", 0, 0, (some .boolean))
abbrev KX9_unlessHeld : pz_K := (RX9, cX9_unlessHeld, 3, 2, "unlessHeld", 0, 0, (some .int))
abbrev KX9_waited : pz_K := (RX9, cX9_waited, 4, 0, "waited", 0, 0, (some .boolean))
abbrev KX10_init : pz_K := (RX10, cX10_init, 2, 1, "<init>", 20, 10352, none)
abbrev KX10_isIn : pz_K := (RX10, cX10_isIn, 6, 0, "isIn", 0, 0, (some .boolean))
abbrev KX10_orNone : pz_K := (RX10, cX10_orNone, 1, 0, "orNone", 0, 0, (some .int))
abbrev KX10_within : pz_K := (RX10, cX10_within, 2, 0, "within", 0, 0, (some .int))
abbrev KX10_off : pz_K := (RX10, cX10_off, 2, 0, "off", 0, 0, (some .int))
abbrev KX10_becomes : pz_K := (RX10, cX10_becomes, 4, 0, "becomes", 0, 0, (some .int))
abbrev KX10_textAt : pz_K := (RX10, cX10_textAt, 2, 0, "textAt", 0, 0, (some .int))
abbrev KX10_of : pz_K := (RX10, cX10_of, 3, 0, "of", 0, 0, (some .int))
abbrev KX10_sets : pz_K := (RX10, cX10_sets, 4, 0, "sets", 0, 0, none)
abbrev KX10_isEater : pz_K := (RX10, cX10_isEater, 2, 1, "isEater", 0, 0, (some .boolean))
abbrev KX10_isCell : pz_K := (RX10, cX10_isCell, 1, 1, "isCell", 0, 0, (some .boolean))
abbrev KX10_isText : pz_K := (RX10, cX10_isText, 2, 1, "isText", 0, 0, (some .boolean))
abbrev KX10_drawn : pz_K := (RX10, cX10_drawn, 1, 0, "drawn", 0, 0, (some .int))
abbrev KX10_beside : pz_K := (RX10, cX10_beside, 2, 0, "beside", 0, 0, (some .int))
abbrev KX10_parts : pz_K := (RX10, cX10_parts, 2, 0, "parts", 0, 0, (some .int))
abbrev KX10_level : pz_K := (RX10, cX10_level, 2, 1, "level", 0, 0, (some .int))
abbrev KX10_comes : pz_K := (RX10, cX10_comes, 4, 1, "comes", 0, 0, none)
abbrev KX10_eater : pz_K := (RX10, cX10_eater, 3, 2, "eater", 0, 0, (some .int))
abbrev KX10_eats : pz_K := (RX10, cX10_eats, 2, 1, "eats", 0, 0, (some .int))
abbrev KX10_wades : pz_K := (RX10, cX10_wades, 2, 1, "wades", 0, 0, (some .int))
abbrev KX10_worth : pz_K := (RX10, cX10_worth, 3, 1, "worth", 0, 0, (some .int))
abbrev KX10_told : pz_K := (RX10, cX10_told, 3, 2, "told", 0, 0, (some .int))
abbrev KX10_cell : pz_K := (RX10, cX10_cell, 3, 2, "cell", 0, 0, (some .int))
abbrev KX10_lays : pz_K := (RX10, cX10_lays, 4, 2, "lays", 0, 0, (some .int))
abbrev KX10_isOf : pz_K := (RX10, cX10_isOf, 2, 0, "isOf", 0, 0, (some .boolean))
abbrev KX10_as : pz_K := (RX10, cX10_as, 3, 2, "as", 0, 0, (some .int))
abbrev KX10_turns : pz_K := (RX10, cX10_turns, 3, 2, "turns", 0, 0, (some .int))
abbrev KX10_sends : pz_K := (RX10, cX10_sends, 3, 2, "sends", 0, 0, (some .int))
abbrev KX10_cook : pz_K := (RX10, cX10_cook, 2, 2, "cook", 0, 0, (some .int))
abbrev KX10_say : pz_K := (RX10, cX10_say, 3, 1, "say", 0, 0, (some .int))
abbrev KX10_mostRule : pz_K := (RX10, cX10_mostRule, 1, 0, "mostRule", 0, 0, (some .int))
abbrev KX10_rule : pz_K := (RX10, cX10_rule, 3, 1, "rule", 0, 0, (some .int))
abbrev KX10_deal : pz_K := (RX10, cX10_deal, 4, 2, "deal", 0, 0, (some .int))
abbrev KX10_seed : pz_K := (RX10, cX10_seed, 2, 1, "seed", 0, 0, (some .int))
abbrev KX10_pours : pz_K := (RX10, cX10_pours, 2, 2, "pours", 0, 0, (some .int))
abbrev KX10_flows : pz_K := (RX10, cX10_flows, 5, 2, "flows", 0, 0, none)
abbrev KX10_dines : pz_K := (RX10, cX10_dines, 8, 2, "dines", 0, 0, (some .int))
abbrev KX10_goesOn : pz_K := (RX10, cX10_goesOn, 3, 3, "goesOn", 0, 0, (some .int))
abbrev KX10_goesOnMany : pz_K := (RX10, cX10_goesOnMany, 4, 4, "goesOnMany", 0, 0, none)
abbrev KX10_minutes : pz_K := (RX10, cX10_minutes, 4, 4, "minutes", 0, 0, (some .int))
abbrev KX10_allParts : pz_K := (RX10, cX10_allParts, 3, 1, "allParts", 0, 0, (some .int))
abbrev KX10_allAte : pz_K := (RX10, cX10_allAte, 3, 1, "allAte", 0, 0, (some .int))
abbrev KX10_manyWet : pz_K := (RX10, cX10_manyWet, 3, 1, "manyWet", 0, 0, (some .int))
abbrev KX10_town : pz_K := (RX10, cX10_town, 2, 3, "town", 0, 0, (some .int))
abbrev KX10_path : pz_K := (RX10, cX10_path, 8, 2, "path", 0, 0, (some .int))
abbrev KX10_laysBy : pz_K := (RX10, cX10_laysBy, 2, 0, "laysBy", 0, 0, none)
abbrev KX10_laysBack : pz_K := (RX10, cX10_laysBack, 2, 0, "laysBack", 0, 0, none)
abbrev KX10_behind : pz_K := (RX10, cX10_behind, 4, 5, "behind", 0, 0, (some .int))
abbrev KX10_wets : pz_K := (RX10, cX10_wets, 4, 5, "wets", 0, 0, (some .int))
abbrev KX10_deepest : pz_K := (RX10, cX10_deepest, 5, 5, "deepest", 0, 0, (some .int))
abbrev KX10_walled : pz_K := (RX10, cX10_walled, 8, 5, "walled", 0, 0, (some .int))
abbrev KX10_enough : pz_K := (RX10, cX10_enough, 5, 5, "enough", 0, 0, (some .int))
abbrev KX10_fee : pz_K := (RX10, cX10_fee, 2, 2, "fee", 0, 0, (some .int))
abbrev KX10_fine : pz_K := (RX10, cX10_fine, 3, 2, "fine", 0, 0, (some .int))
abbrev KX10_feed : pz_K := (RX10, cX10_feed, 6, 0, "feed", 0, 0, (some .int))
abbrev KX10_trim : pz_K := (RX10, cX10_trim, 2, 1, "trim", 0, 0, (some .int))
abbrev KX10_isLetter : pz_K := (RX10, cX10_isLetter, 2, 1, "isLetter", 0, 0, (some .boolean))
abbrev KX10_isDigit : pz_K := (RX10, cX10_isDigit, 2, 1, "isDigit", 0, 0, (some .boolean))
abbrev KX10_nextToken : pz_K := (RX10, cX10_nextToken, 3, 2, "nextToken", 0, 0, none)
abbrev KX10_isSign : pz_K := (RX10, cX10_isSign, 2, 0, "isSign", 0, 0, (some .boolean))
abbrev KX10_isWordAt : pz_K := (RX10, cX10_isWordAt, 6, 0, "isWordAt", 0, 0, (some .boolean))
abbrev KX10_key : pz_K := (RX10, cX10_key, 1, 1, "key", 0, 0, (some .int))
abbrev KX10_isName : pz_K := (RX10, cX10_isName, 2, 0, "isName", 0, 0, (some .boolean))
abbrev KX10_step : pz_K := (RX10, cX10_step, 3, 0, "step", 0, 0, none)
abbrev KX10_either (dr : Nat) : pz_K := (RX10, cX10_either, 2, dr + 12, "either", 0, 0, (some .boolean))
abbrev KX10_both (dr : Nat) : pz_K := (RX10, cX10_both, 2, dr + 12, "both", 0, 0, (some .boolean))
abbrev KX10_test (dr : Nat) : pz_K := (RX10, cX10_test, 3, dr + 12, "test", 0, 0, (some .boolean))
abbrev KX10_sum (dr : Nat) : pz_K := (RX10, cX10_sum, 3, dr + 12, "sum", 0, 0, (some .boolean))
abbrev KX10_term (dr : Nat) : pz_K := (RX10, cX10_term, 3, dr + 12, "term", 0, 0, (some .boolean))
abbrev KX10_part0 (dr : Nat) : pz_K := (RX10, cX10_part0, 2, dr + 12, "part0", 0, 0, (some .boolean))
abbrev KX10_parse : pz_K := (RX10, cX10_parse, 3, 162, "parse", 0, 0, (some .int))
abbrev KX10_text : pz_K := (RX10, cX10_text, 3, 163, "text", 0, 0, (some .int))
abbrev KX10_textTold : pz_K := (RX10, cX10_textTold, 3, 2, "textTold", 0, 0, (some .int))
abbrev KX10_counts : pz_K := (RX10, cX10_counts, 4, 1, "counts", 0, 0, (some .int))
abbrev KX10_why : pz_K := (RX10, cX10_why, 2, 2, "why", 0, 0, (some .int))
abbrev KX10_joined : pz_K := (RX10, cX10_joined, 3, 0, "joined", 0, 0, (some .int))
abbrev KX10_worked : pz_K := (RX10, cX10_worked, 6, 1, "worked", 0, 0, (some .int))
abbrev KX10_isSheet : pz_K := (RX10, cX10_isSheet, 1, 1, "isSheet", 0, 0, (some .boolean))
abbrev KX10_sheet : pz_K := (RX10, cX10_sheet, 5, 2, "sheet", 0, 0, (some .int))
abbrev KX10_mark : pz_K := (RX10, cX10_mark, 4, 2, "mark", 0, 0, (some .int))
abbrev KX10_pour : pz_K := (RX10, cX10_pour, 6, 2, "pour", 0, 0, (some .int))
abbrev KX10_reads : pz_K := (RX10, cX10_reads, 4, 2, "reads", 0, 0, (some .int))
abbrev KX10_stood : pz_K := (RX10, cX10_stood, 10, 5, "stood", 0, 0, (some .int))
abbrev KX10_copy : pz_K := (RX10, cX10_copy, 7, 2, "copy", 0, 0, (some .int))
abbrev KX10_isSlot : pz_K := (RX10, cX10_isSlot, 1, 1, "isSlot", 0, 0, (some .boolean))
abbrev KX10_lay : pz_K := (RX10, cX10_lay, 7, 2, "lay", 0, 0, (some .int))
abbrev KX10_ask : pz_K := (RX10, cX10_ask, 3, 2, "ask", 0, 0, (some .int))
abbrev KX10_item : pz_K := (RX10, cX10_item, 4, 2, "item", 0, 0, (some .int))
abbrev KX10_rest : pz_K := (RX10, cX10_rest, 3, 2, "rest", 0, 0, (some .int))
abbrev KX10_tell : pz_K := (RX10, cX10_tell, 2, 0, "tell", 0, 0, (some .int))
abbrev KX10_setAside : pz_K := (RX10, cX10_setAside, 4, 0, "setAside", 0, 0, none)
abbrev KX10_check : pz_K := (RX10, cX10_check, 5, 5, "check", 0, 0, (some .int))
abbrev KX10_keep : pz_K := (RX10, cX10_keep, 1, 1, "keep", 0, 0, (some .int))
abbrev KX10_back : pz_K := (RX10, cX10_back, 1, 1, "back", 0, 0, (some .int))
abbrev KX10_count : pz_K := (RX10, cX10_count, 2, 0, "count", 0, 0, (some .int))
abbrev KX0_isKind : pz_K := (RX0, cX0_isKind, 1, 1, "isKind", 0, 0, (some .boolean))
abbrev KX0_isUnder : pz_K := (RX0, cX0_isUnder, 4, 2, "isUnder", 0, 0, (some .boolean))
abbrev KX0_eats : pz_K := (RX0, cX0_eats, 2, 0, "eats", 0, 0, (some .int))
abbrev KX0_wades : pz_K := (RX0, cX0_wades, 1, 0, "wades", 0, 0, (some .int))
abbrev KX0_worth : pz_K := (RX0, cX0_worth, 2, 1, "worth", 0, 0, (some .int))
abbrev KX0_gluttonWorth : pz_K := (RX0, cX0_gluttonWorth, 1, 0, "gluttonWorth", 0, 0, (some .int))
abbrev KX0_childWorth : pz_K := (RX0, cX0_childWorth, 1, 0, "childWorth", 0, 0, (some .int))
abbrev KX1_init : pz_K := (RX1, cX1_init, 1, 1, "<init>", 2, 110, none)
abbrev KX1_takes : pz_K := (RX1, cX1_takes, 4, 2, "takes", 2, 100, (some (.object "LittlePot$Text")))
abbrev KX1_numbered : pz_K := (RX1, cX1_numbered, 2, 1, "numbered", 0, 0, (some (.object "LittlePot$Text")))
abbrev KX1_last : pz_K := (RX1, cX1_last, 4, 1, "last", 0, 0, (some .int))
abbrev KX1_counting : pz_K := (RX1, cX1_counting, 3, 2, "counting", 0, 0, (some (.object "LittlePot$Text")))
abbrev KX1_given : pz_K := (RX1, cX1_given, 8, 1, "given", 0, 0, (some .int))
abbrev KX1_joined : pz_K := (RX1, cX1_joined, 3, 0, "joined", 0, 0, (some .int))
abbrev KX2_beside : pz_K := (RX2, cX2_beside, 2, 0, "beside", 0, 0, (some .int))
abbrev KX3_init : pz_K := (RX3, cX3_init, 1, 2, "<init>", 3, 196, none)
abbrev KX3_getsNumber : pz_K := (RX3, cX3_getsNumber, 3, 0, "getsNumber", 0, 0, none)
abbrev KX3_findsFault : pz_K := (RX3, cX3_findsFault, 2, 162, "findsFault", 0, 0, (some .int))
abbrev KX3_goesOn : pz_K := (RX3, cX3_goesOn, 3, 2, "goesOn", 0, 0, none)
abbrev KX3_isLetter : pz_K := (RX3, cX3_isLetter, 2, 1, "isLetter", 0, 0, (some .boolean))
abbrev KX3_isDigit : pz_K := (RX3, cX3_isDigit, 2, 1, "isDigit", 0, 0, (some .boolean))
abbrev KX3_keyHere : pz_K := (RX3, cX3_keyHere, 1, 5, "keyHere", 0, 0, (some .int))
abbrev KX3_isWord : pz_K := (RX3, cX3_isWord, 3, 4, "isWord", 0, 0, (some .boolean))
abbrev KX3_nameHere : pz_K := (RX3, cX3_nameHere, 2, 4, "nameHere", 0, 0, (some .int))
abbrev KX3_isSign : pz_K := (RX3, cX3_isSign, 2, 0, "isSign", 0, 0, (some .boolean))
abbrev KX3_readsOr (dr : Nat) : pz_K := (RX3, cX3_readsOr, 3, dr + 12, "readsOr", 0, 0, (some .boolean))
abbrev KX3_readsAnd (dr : Nat) : pz_K := (RX3, cX3_readsAnd, 3, dr + 12, "readsAnd", 0, 0, (some .boolean))
abbrev KX3_readsTest (dr : Nat) : pz_K := (RX3, cX3_readsTest, 3, dr + 12, "readsTest", 0, 0, (some .boolean))
abbrev KX3_readsSum (dr : Nat) : pz_K := (RX3, cX3_readsSum, 4, dr + 12, "readsSum", 0, 0, (some .boolean))
abbrev KX3_readsTerm (dr : Nat) : pz_K := (RX3, cX3_readsTerm, 4, dr + 12, "readsTerm", 0, 0, (some .boolean))
abbrev KX3_readsPiece (dr : Nat) : pz_K := (RX3, cX3_readsPiece, 2, dr + 12, "readsPiece", 0, 0, (some .boolean))
abbrev KX3_readsNot (dr : Nat) : pz_K := (RX3, cX3_readsNot, 2, dr + 12, "readsNot", 0, 0, (some .boolean))
abbrev KX3_readsParen (dr : Nat) : pz_K := (RX3, cX3_readsParen, 2, dr + 12, "readsParen", 0, 0, (some .boolean))
abbrev KX3_numberHere : pz_K := (RX3, cX3_numberHere, 3, 0, "numberHere", 0, 0, (some .int))
abbrev KX4_init : pz_K := (RX4, cX4_init, 1, 1, "<init>", 1, 24, none)
abbrev KX4_becomes : pz_K := (RX4, cX4_becomes, 4, 0, "becomes", 0, 0, none)
abbrev KX4_becomes_ : pz_K := (RX4, cX4_becomes_, 2, 1, "becomes", 0, 0, none)
abbrev KX4_isMissing : pz_K := (RX4, cX4_isMissing, 1, 0, "isMissing", 0, 0, (some .boolean))
abbrev KX4_hasPlace : pz_K := (RX4, cX4_hasPlace, 2, 1, "hasPlace", 0, 0, (some .boolean))
abbrev KX4_hasPlaces : pz_K := (RX4, cX4_hasPlaces, 3, 1, "hasPlaces", 0, 0, (some .boolean))
abbrev KX4_isNumber : pz_K := (RX4, cX4_isNumber, 2, 0, "isNumber", 0, 0, (some .boolean))
abbrev KX4_differsFrom : pz_K := (RX4, cX4_differsFrom, 4, 1, "differsFrom", 0, 0, (some .int))
abbrev KX4_firstUnlike : pz_K := (RX4, cX4_firstUnlike, 3, 1, "firstUnlike", 0, 0, (some .int))
abbrev KX4_poursInto : pz_K := (RX4, cX4_poursInto, 5, 1, "poursInto", 0, 0, (some .int))
abbrev KX5_init : pz_K := (RX5, cX5_init, 1, 2, "<init>", 2, 27, none)
abbrev KX6_init : pz_K := (RX6, cX6_init, 1, 1, "<init>", 1, 96, none)
abbrev KX6_begins : pz_K := (RX6, cX6_begins, 2, 0, "begins", 0, 0, none)
abbrev KX6_adds : pz_K := (RX6, cX6_adds, 2, 0, "adds", 0, 0, none)
abbrev KX7_init : pz_K := (RX7, cX7_init, 2, 1, "<init>", 7, 136, none)
abbrev KX7_becomes : pz_K := (RX7, cX7_becomes, 2, 1, "becomes", 0, 0, none)
abbrev KX7_hasEater : pz_K := (RX7, cX7_hasEater, 2, 1, "hasEater", 0, 0, (some .boolean))
abbrev KX7_comes : pz_K := (RX7, cX7_comes, 4, 0, "comes", 0, 0, (some .int))
abbrev KX7_laid : pz_K := (RX7, cX7_laid, 2, 0, "laid", 0, 0, (some (.array .int)))
abbrev KX7_level : pz_K := (RX7, cX7_level, 2, 0, "level", 0, 0, (some .int))
abbrev KX7_allParts : pz_K := (RX7, cX7_allParts, 3, 0, "allParts", 0, 0, (some .int))
abbrev KX7_allAte : pz_K := (RX7, cX7_allAte, 3, 0, "allAte", 0, 0, (some .int))
abbrev KX7_wetCells : pz_K := (RX7, cX7_wetCells, 3, 0, "wetCells", 0, 0, (some .int))
abbrev KX7_pours : pz_K := (RX7, cX7_pours, 3, 3, "pours", 0, 0, (some .int))
abbrev KX7_draw : pz_K := (RX7, cX7_draw, 1, 0, "draw", 0, 0, (some .int))
abbrev KX7_passes : pz_K := (RX7, cX7_passes, 3, 5, "passes", 0, 0, none)
abbrev KX7_pass : pz_K := (RX7, cX7_pass, 2, 4, "pass", 0, 0, none)
abbrev KX7_flows : pz_K := (RX7, cX7_flows, 6, 1, "flows", 0, 0, none)
abbrev KX7_feasts : pz_K := (RX7, cX7_feasts, 4, 2, "feasts", 0, 0, none)
abbrev KX7_fullestBeside : pz_K := (RX7, cX7_fullestBeside, 7, 1, "fullestBeside", 0, 0, (some .int))
abbrev KX7_miceEat : pz_K := (RX7, cX7_miceEat, 2, 1, "miceEat", 0, 0, none)
abbrev KX8_init : pz_K := (RX8, cX8_init, 1, 1, "<init>", 2, 72, none)
abbrev KX8_fewest : pz_K := (RX8, cX8_fewest, 9, 1, "fewest", 0, 0, (some .int))
abbrev KL_law : pz_K := (RL, cL_law, 4, 164, "law", 600000, 7302250, (some .boolean))
abbrev KJ0_charAt_5068e : pz_K := (RJ0, cJ0_charAt_5068e, 2, 3, "charAt", 0, 0, (some .char))
abbrev KJ0_checkIndex_df160 : pz_K := (RJ0, cJ0_checkIndex_df160, 2, 1, "checkIndex", 0, 0, none)
abbrev KJ0_coder_7d493 : pz_K := (RJ0, cJ0_coder_7d493, 1, 0, "coder", 0, 0, (some .byte))
abbrev KJ0_indexOf_0f7a4 : pz_K := (RJ0, cJ0_indexOf_0f7a4, 2, 3, "indexOf", 0, 0, (some .int))
abbrev KJ0_indexOf_7cf53 : pz_K := (RJ0, cJ0_indexOf_7cf53, 3, 2, "indexOf", 0, 0, (some .int))
abbrev KJ0_isLatin1_aae02 : pz_K := (RJ0, cJ0_isLatin1_aae02, 1, 0, "isLatin1", 0, 0, (some .boolean))
abbrev KJ0_length_8abf5 : pz_K := (RJ0, cJ0_length_8abf5, 1, 1, "length", 0, 0, (some .int))
abbrev KJ1_canEncode_9a6ad : pz_K := (RJ1, cJ1_canEncode_9a6ad, 1, 0, "canEncode", 0, 0, (some .boolean))
abbrev KJ1_charAt_3b067 : pz_K := (RJ1, cJ1_charAt_3b067, 2, 2, "charAt", 0, 0, (some .char))
abbrev KJ1_indexOf_4cfef : pz_K := (RJ1, cJ1_indexOf_4cfef, 4, 1, "indexOf", 0, 0, (some .int))
abbrev KJ1_indexOfChar_4cfef : pz_K := (RJ1, cJ1_indexOfChar_4cfef, 6, 0, "indexOfChar", 0, 0, (some .int))
end
section
def IJ0_charAt_5068e : List (Nat × pz_I) := [(0, pz_al 0 1), (1, pz_cvS yJ0_isLatin1_aae02 KJ0_isLatin1_aae02 1 4), (4, pz_if0 (fun x => x = 0) (fun x => ¬ x = 0) 16 7), (7, pz_al 0 8), (8, pz_gsv 11), (11, pz_il 1 12), (12, pz_cs yJ1_charAt_3b067 KJ1_charAt_3b067 2 15), (15, pz_nret .char), (16, pz_al 0 17), (17, pz_gsv 20), (20, pz_il 1 21), (24, pz_nret .char)]
theorem SJ0_charAt_5068e : pz_Is KJ0_charAt_5068e (IJ0_charAt_5068e) := ⟨pz_s_aload_n (a := 0) (by decide +kernel) rfl, pz_s_cvS (by decide +kernel) ok_J0_492 rfl (by decide) ⟨rfl, rfl⟩, pz_s_if_eq (off := 12) (by decide +kernel) (by decide), pz_s_aload_n (a := 0) (by decide +kernel) rfl, pz_s_gsv (by decide +kernel) wf_J0_9, pz_s_iload_n (a := 1) (by decide +kernel) rfl, pz_s_cs (by decide +kernel) ok_J0_495 (by decide) ⟨rfl, rfl⟩, pz_s_nreturn (by decide +kernel) rfl, pz_s_aload_n (a := 0) (by decide +kernel) rfl, pz_s_gsv (by decide +kernel) wf_J0_9, pz_s_iload_n (a := 1) (by decide +kernel) rfl, pz_s_nreturn (by decide +kernel) rfl, trivial⟩
def IJ0_checkIndex_df160 : List (Nat × pz_I) := [(0, pz_il 0 1), (1, pz_il 1 2), (2, pz_gsq 5), (8, pz_pop 9), (9, pz_vret)]
theorem SJ0_checkIndex_df160 : pz_Is KJ0_checkIndex_df160 (IJ0_checkIndex_df160) := ⟨pz_s_iload_n (a := 0) (by decide +kernel) rfl, pz_s_iload_n (a := 1) (by decide +kernel) rfl, pz_s_gsq (by decide +kernel) wf_J0_1053, pz_s_pop (by decide +kernel), pz_s_vreturn (by decide +kernel) rfl, trivial⟩
def IJ0_coder_7d493 : List (Nat × pz_I) := [(0, pz_gcs 3), (3, pz_if0 (fun x => x = 0) (fun x => ¬ x = 0) 13 6), (6, pz_al 0 7), (7, pz_gsc 10), (10, pz_goto 14 13), (13, pz_ic (1) 14), (14, pz_nret .byte)]
theorem SJ0_coder_7d493 : pz_Is KJ0_coder_7d493 (IJ0_coder_7d493) := ⟨pz_s_gcs (by decide +kernel) wf_J0_38, pz_s_if_eq (off := 10) (by decide +kernel) (by decide), pz_s_aload_n (a := 0) (by decide +kernel) rfl, pz_s_gsc (by decide +kernel) wf_J0_15, pz_s_goto (off := 4) (by decide +kernel) (by decide), pz_s_iconst (a := 1) (by decide +kernel) (by decide), pz_s_nreturn (by decide +kernel) rfl, trivial⟩
def IJ0_indexOf_0f7a4 : List (Nat × pz_I) := [(0, pz_al 0 1), (1, pz_il 1 2), (2, pz_ic (0) 3), (3, pz_cvS yJ0_indexOf_7cf53 KJ0_indexOf_7cf53 3 6), (6, pz_ret)]
theorem SJ0_indexOf_0f7a4 : pz_Is KJ0_indexOf_0f7a4 (IJ0_indexOf_0f7a4) := ⟨pz_s_aload_n (a := 0) (by decide +kernel) rfl, pz_s_iload_n (a := 1) (by decide +kernel) rfl, pz_s_iconst (a := 0) (by decide +kernel) (by decide), pz_s_cvS (by decide +kernel) ok_J0_633 rfl (by decide) ⟨rfl, rfl⟩, pz_s_ireturn (by decide +kernel) rfl, trivial⟩
def IJ0_indexOf_7cf53 : List (Nat × pz_I) := [(0, pz_al 0 1), (1, pz_cvS yJ0_isLatin1_aae02 KJ0_isLatin1_aae02 1 4), (4, pz_if0 (fun x => x = 0) (fun x => ¬ x = 0) 23 7), (7, pz_al 0 8), (8, pz_gsv 11), (11, pz_il 1 12), (12, pz_il 2 13), (13, pz_al 0 14), (14, pz_cvS yJ0_length_8abf5 KJ0_length_8abf5 1 17), (17, pz_cs yJ1_indexOf_4cfef KJ1_indexOf_4cfef 4 20), (20, pz_goto 36 23), (23, pz_al 0 24), (24, pz_gsv 27), (27, pz_il 1 28), (28, pz_il 2 29), (29, pz_al 0 30), (30, pz_cvS yJ0_length_8abf5 KJ0_length_8abf5 1 33), (36, pz_ret)]
theorem SJ0_indexOf_7cf53 : pz_Is KJ0_indexOf_7cf53 (IJ0_indexOf_7cf53) := ⟨pz_s_aload_n (a := 0) (by decide +kernel) rfl, pz_s_cvS (by decide +kernel) ok_J0_492 rfl (by decide) ⟨rfl, rfl⟩, pz_s_if_eq (off := 19) (by decide +kernel) (by decide), pz_s_aload_n (a := 0) (by decide +kernel) rfl, pz_s_gsv (by decide +kernel) wf_J0_9, pz_s_iload_n (a := 1) (by decide +kernel) rfl, pz_s_iload_n (a := 2) (by decide +kernel) rfl, pz_s_aload_n (a := 0) (by decide +kernel) rfl, pz_s_cvS (by decide +kernel) ok_J0_505 rfl (by decide) ⟨rfl, rfl⟩, pz_s_cs (by decide +kernel) ok_J0_637 (by decide) ⟨rfl, rfl⟩, pz_s_goto (off := 16) (by decide +kernel) (by decide), pz_s_aload_n (a := 0) (by decide +kernel) rfl, pz_s_gsv (by decide +kernel) wf_J0_9, pz_s_iload_n (a := 1) (by decide +kernel) rfl, pz_s_iload_n (a := 2) (by decide +kernel) rfl, pz_s_aload_n (a := 0) (by decide +kernel) rfl, pz_s_cvS (by decide +kernel) ok_J0_505 rfl (by decide) ⟨rfl, rfl⟩, pz_s_ireturn (by decide +kernel) rfl, trivial⟩
def IJ0_isLatin1_aae02 : List (Nat × pz_I) := [(0, pz_gcs 3), (3, pz_if0 (fun x => x = 0) (fun x => ¬ x = 0) 17 6), (6, pz_al 0 7), (7, pz_gsc 10), (10, pz_if0 (fun x => ¬ x = 0) (fun x => x = 0) 17 13), (13, pz_ic (1) 14), (14, pz_goto 18 17), (17, pz_ic (0) 18), (18, pz_zret)]
theorem SJ0_isLatin1_aae02 : pz_Is KJ0_isLatin1_aae02 (IJ0_isLatin1_aae02) := ⟨pz_s_gcs (by decide +kernel) wf_J0_38, pz_s_if_eq (off := 14) (by decide +kernel) (by decide), pz_s_aload_n (a := 0) (by decide +kernel) rfl, pz_s_gsc (by decide +kernel) wf_J0_15, pz_s_if_ne (off := 7) (by decide +kernel) (by decide), pz_s_iconst (a := 1) (by decide +kernel) (by decide), pz_s_goto (off := 4) (by decide +kernel) (by decide), pz_s_iconst (a := 0) (by decide +kernel) (by decide), pz_s_zreturn (by decide +kernel) rfl, trivial⟩
def IJ0_length_8abf5 : List (Nat × pz_I) := [(0, pz_al 0 1), (1, pz_gsv 4), (4, pz_xlen 5), (5, pz_al 0 6), (6, pz_cvS yJ0_coder_7d493 KJ0_coder_7d493 1 9), (9, pz_bin (fun x y => x >>> (y &&& 31)) 10), (10, pz_ret)]
theorem SJ0_length_8abf5 : pz_Is KJ0_length_8abf5 (IJ0_length_8abf5) := ⟨pz_s_aload_n (a := 0) (by decide +kernel) rfl, pz_s_gsv (by decide +kernel) wf_J0_9, pz_s_xlen (by decide +kernel), pz_s_aload_n (a := 0) (by decide +kernel) rfl, pz_s_cvS (by decide +kernel) ok_J0_335 rfl (by decide) ⟨rfl, rfl⟩, pz_s_ishr (by decide +kernel), pz_s_ireturn (by decide +kernel) rfl, trivial⟩
def IJ1_canEncode_9a6ad : List (Nat × pz_I) := [(0, pz_il 0 1), (1, pz_if0 (fun x => x < 0) (fun x => ¬ x < 0) 15 4), (4, pz_il 0 5), (5, pz_ic (255) 8), (8, pz_if2 (fun x y => y < x) (fun x y => ¬ y < x) 15 11), (11, pz_ic (1) 12), (12, pz_goto 16 15), (15, pz_ic (0) 16), (16, pz_zret)]
theorem SJ1_canEncode_9a6ad : pz_Is KJ1_canEncode_9a6ad (IJ1_canEncode_9a6ad) := ⟨pz_s_iload_n (a := 0) (by decide +kernel) rfl, pz_s_if_lt (off := 14) (by decide +kernel) (by decide), pz_s_iload_n (a := 0) (by decide +kernel) rfl, pz_s_sipush (a := 255) (by decide +kernel) (by decide), pz_s_icmp_gt (off := 7) (by decide +kernel) (by decide), pz_s_iconst (a := 1) (by decide +kernel) (by decide), pz_s_goto (off := 4) (by decide +kernel) (by decide), pz_s_iconst (a := 0) (by decide +kernel) (by decide), pz_s_zreturn (by decide +kernel) rfl, trivial⟩
def IJ1_charAt_3b067 : List (Nat × pz_I) := [(0, pz_il 1 1), (1, pz_al 0 2), (2, pz_xlen 3), (3, pz_cs yJ0_checkIndex_df160 KJ0_checkIndex_df160 2 6), (6, pz_al 0 7), (7, pz_il 1 8), (8, pz_xbald 9), (9, pz_ic (255) 12), (12, pz_bin (fun x y => x &&& y) 13), (13, pz_un (fun x => (x.toUInt32 % 65536).toInt32) 14), (14, pz_nret .char)]
theorem SJ1_charAt_3b067 : pz_Is KJ1_charAt_3b067 (IJ1_charAt_3b067) := ⟨pz_s_iload_n (a := 1) (by decide +kernel) rfl, pz_s_aload_n (a := 0) (by decide +kernel) rfl, pz_s_xlen (by decide +kernel), pz_s_cs (by decide +kernel) ok_J1_9 (by decide) ⟨rfl, rfl⟩, pz_s_aload_n (a := 0) (by decide +kernel) rfl, pz_s_iload_n (a := 1) (by decide +kernel) rfl, pz_s_xbald (by decide +kernel), pz_s_sipush (a := 255) (by decide +kernel) (by decide), pz_s_iand (by decide +kernel), pz_s_i2c (by decide +kernel), pz_s_nreturn (by decide +kernel) rfl, trivial⟩
def IJ1_indexOf_4cfef : List (Nat × pz_I) := [(0, pz_il 1 1), (1, pz_cs yJ1_canEncode_9a6ad KJ1_canEncode_9a6ad 1 4), (4, pz_if0 (fun x => ¬ x = 0) (fun x => x = 0) 9 7), (7, pz_ic (-1) 8), (8, pz_ret), (9, pz_il 2 10), (10, pz_ic (0) 11), (11, pz_mb (fun x y => if x < y then y else x) 14), (14, pz_is 2 15), (15, pz_il 3 16), (16, pz_al 0 17), (17, pz_xlen 18), (18, pz_mb (fun x y => if y < x then y else x) 21), (21, pz_is 3 22), (22, pz_il 2 23), (23, pz_il 3 24), (24, pz_if2 (fun x y => x < y) (fun x y => ¬ x < y) 29 27), (27, pz_ic (-1) 28), (28, pz_ret), (29, pz_al 0 30), (30, pz_il 1 31), (31, pz_il 2 32), (32, pz_il 3 33), (33, pz_cs yJ1_indexOfChar_4cfef KJ1_indexOfChar_4cfef 4 36), (36, pz_ret)]
theorem SJ1_indexOf_4cfef : pz_Is KJ1_indexOf_4cfef (IJ1_indexOf_4cfef) := ⟨pz_s_iload_n (a := 1) (by decide +kernel) rfl, pz_s_cs (by decide +kernel) ok_J1_88 (by decide) ⟨rfl, rfl⟩, pz_s_if_ne (off := 5) (by decide +kernel) (by decide), pz_s_iconst (a := -1) (by decide +kernel) (by decide), pz_s_ireturn (by decide +kernel) rfl, pz_s_iload_n (a := 2) (by decide +kernel) rfl, pz_s_iconst (a := 0) (by decide +kernel) (by decide), pz_s_mmax (by decide +kernel) (by decide) wm_J1_92 wms_max wmi wmc_max, pz_s_istore_n (a := 2) (by decide +kernel) rfl, pz_s_iload_n (a := 3) (by decide +kernel) rfl, pz_s_aload_n (a := 0) (by decide +kernel) rfl, pz_s_xlen (by decide +kernel), pz_s_mmin (by decide +kernel) (by decide) wm_J1_38 wms_min wmi wmc_min, pz_s_istore_n (a := 3) (by decide +kernel) rfl, pz_s_iload_n (a := 2) (by decide +kernel) rfl, pz_s_iload_n (a := 3) (by decide +kernel) rfl, pz_s_icmp_lt (off := 5) (by decide +kernel) (by decide), pz_s_iconst (a := -1) (by decide +kernel) (by decide), pz_s_ireturn (by decide +kernel) rfl, pz_s_aload_n (a := 0) (by decide +kernel) rfl, pz_s_iload_n (a := 1) (by decide +kernel) rfl, pz_s_iload_n (a := 2) (by decide +kernel) rfl, pz_s_iload_n (a := 3) (by decide +kernel) rfl, pz_s_cs (by decide +kernel) ok_J1_95 (by decide) ⟨rfl, rfl⟩, pz_s_ireturn (by decide +kernel) rfl, trivial⟩
def IJ1_indexOfChar_4cfef : List (Nat × pz_I) := [(0, pz_il 1 1), (1, pz_un (fun x => x.toInt8.toInt32) 2), (2, pz_is 4 4), (4, pz_il 2 5), (5, pz_is 5 7), (7, pz_il 5 9), (9, pz_il 3 10), (10, pz_if2 (fun x y => y ≤ x) (fun x y => ¬ y ≤ x) 31 13), (13, pz_al 0 14), (14, pz_il 5 16), (16, pz_xbald 17), (17, pz_il 4 19), (19, pz_if2 (fun x y => ¬ x = y) (fun x y => x = y) 25 22), (22, pz_il 5 24), (24, pz_ret), (25, pz_inc 5 (1) 28), (28, pz_goto 7 31), (31, pz_ic (-1) 32), (32, pz_ret)]
theorem SJ1_indexOfChar_4cfef : pz_Is KJ1_indexOfChar_4cfef (IJ1_indexOfChar_4cfef) := ⟨pz_s_iload_n (a := 1) (by decide +kernel) rfl, pz_s_i2b (by decide +kernel), pz_s_istore (by decide +kernel), pz_s_iload_n (a := 2) (by decide +kernel) rfl, pz_s_istore (by decide +kernel), pz_s_iload (by decide +kernel), pz_s_iload_n (a := 3) (by decide +kernel) rfl, pz_s_icmp_ge (off := 21) (by decide +kernel) (by decide), pz_s_aload_n (a := 0) (by decide +kernel) rfl, pz_s_iload (by decide +kernel), pz_s_xbald (by decide +kernel), pz_s_iload (by decide +kernel), pz_s_icmp_ne (off := 6) (by decide +kernel) (by decide), pz_s_iload (by decide +kernel), pz_s_ireturn (by decide +kernel) rfl, pz_s_iinc (a := 1) (by decide +kernel) (by decide), pz_s_goto (off := -21) (by decide +kernel) (by decide), pz_s_iconst (a := -1) (by decide +kernel) (by decide), pz_s_ireturn (by decide +kernel) rfl, trivial⟩
def IX0_isKind : List (Nat × pz_I) := [(0, pz_il 0 1), (1, pz_ic (0) 2), (2, pz_ic (5) 3), (3, pz_cs yX9_within KX9_within 3 6), (6, pz_zret)]
theorem SX0_isKind : pz_Is KX0_isKind (IX0_isKind) := ⟨pz_s_iload_n (a := 0) (by decide +kernel) rfl, pz_s_iconst (a := 0) (by decide +kernel) (by decide), pz_s_iconst (a := 5) (by decide +kernel) (by decide), pz_s_csN (by decide +kernel) ok_X0_9 (by decide) ⟨rfl, rfl⟩, pz_s_zreturn (by decide +kernel) rfl, trivial⟩
def IX0_isUnder : List (Nat × pz_I) := [(0, pz_il 0 1), (1, pz_is 2 2), (2, pz_ic (0) 3), (3, pz_is 3 4), (4, pz_il 3 5), (5, pz_ic (6) 7), (7, pz_if2 (fun x y => y ≤ x) (fun x y => ¬ y ≤ x) 36 10), (10, pz_il 2 11), (11, pz_cs yX0_isKind KX0_isKind 1 14), (14, pz_if0 (fun x => x = 0) (fun x => ¬ x = 0) 36 17), (17, pz_il 2 18), (18, pz_il 1 19), (19, pz_if2 (fun x y => ¬ x = y) (fun x y => x = y) 24 22), (22, pz_ic (1) 23), (23, pz_zret), (24, pz_gst 2 27), (27, pz_il 2 28), (28, pz_sald 2 29), (29, pz_is 2 30), (30, pz_inc 3 (1) 33), (33, pz_goto 4 36), (36, pz_ic (0) 37), (37, pz_zret)]
theorem SX0_isUnder : pz_Is KX0_isUnder (IX0_isUnder) := ⟨pz_s_iload_n (a := 0) (by decide +kernel) rfl, pz_s_istore_n (a := 2) (by decide +kernel) rfl, pz_s_iconst (a := 0) (by decide +kernel) (by decide), pz_s_istore_n (a := 3) (by decide +kernel) rfl, pz_s_iload_n (a := 3) (by decide +kernel) rfl, pz_s_bipush (a := 6) (by decide +kernel) (by decide), pz_s_icmp_ge (off := 29) (by decide +kernel) (by decide), pz_s_iload_n (a := 2) (by decide +kernel) rfl, pz_s_cs (by decide +kernel) ok_X0_15 (by decide) ⟨rfl, rfl⟩, pz_s_if_eq (off := 22) (by decide +kernel) (by decide), pz_s_iload_n (a := 2) (by decide +kernel) rfl, pz_s_iload_n (a := 1) (by decide +kernel) rfl, pz_s_icmp_ne (off := 5) (by decide +kernel) (by decide), pz_s_iconst (a := 1) (by decide +kernel) (by decide), pz_s_zreturn (by decide +kernel) rfl, pz_s_gst (i := 19) (by decide +kernel) (by decide) wf_X0_19, pz_s_iload_n (a := 2) (by decide +kernel) rfl, pz_s_sald (by decide +kernel) (by decide), pz_s_istore_n (a := 2) (by decide +kernel) rfl, pz_s_iinc (a := 1) (by decide +kernel) (by decide), pz_s_goto (off := -29) (by decide +kernel) (by decide), pz_s_iconst (a := 0) (by decide +kernel) (by decide), pz_s_zreturn (by decide +kernel) rfl, trivial⟩
def IX0_eats : List (Nat × pz_I) := [(0, pz_il 0 1), (1, pz_sw [(1, 36), (2, 42), (3, 39), (4, 44), (5, 56)] 58), (36, pz_ic (8) 38), (38, pz_ret), (39, pz_ic (16) 41), (41, pz_ret), (42, pz_ic (1) 43), (43, pz_ret), (44, pz_il 1 45), (45, pz_ic (50) 47), (47, pz_if2 (fun x y => x ≤ y) (fun x y => ¬ x ≤ y) 54 50), (50, pz_ic (0) 51), (51, pz_goto 55 54), (54, pz_ic (1) 55), (55, pz_ret), (56, pz_ic (4) 57), (57, pz_ret), (58, pz_ic (3) 59), (59, pz_ret)]
theorem SX0_eats : pz_Is KX0_eats (IX0_eats) := ⟨pz_s_iload_n (a := 0) (by decide +kernel) rfl, pz_s_table (len := 35) (dflt := 57) (lo := 1) (hi := 5) (offs := #[35, 41, 38, 43, 55]) (by decide +kernel) (by decide +kernel) (by decide +kernel) (by decide +kernel) (by decide +kernel), pz_s_bipush (a := 8) (by decide +kernel) (by decide), pz_s_ireturn (by decide +kernel) rfl, pz_s_bipush (a := 16) (by decide +kernel) (by decide), pz_s_ireturn (by decide +kernel) rfl, pz_s_iconst (a := 1) (by decide +kernel) (by decide), pz_s_ireturn (by decide +kernel) rfl, pz_s_iload_n (a := 1) (by decide +kernel) rfl, pz_s_bipush (a := 50) (by decide +kernel) (by decide), pz_s_icmp_le (off := 7) (by decide +kernel) (by decide), pz_s_iconst (a := 0) (by decide +kernel) (by decide), pz_s_goto (off := 4) (by decide +kernel) (by decide), pz_s_iconst (a := 1) (by decide +kernel) (by decide), pz_s_ireturn (by decide +kernel) rfl, pz_s_iconst (a := 4) (by decide +kernel) (by decide), pz_s_ireturn (by decide +kernel) rfl, pz_s_iconst (a := 3) (by decide +kernel) (by decide), pz_s_ireturn (by decide +kernel) rfl, trivial⟩
def IX0_wades : List (Nat × pz_I) := [(0, pz_il 0 1), (1, pz_sw [(2, 36), (3, 32), (4, 39), (5, 42)] 45), (32, pz_ic (999) 35), (35, pz_ret), (36, pz_ic (30) 38), (38, pz_ret), (39, pz_ic (15) 41), (41, pz_ret), (42, pz_ic (60) 44), (44, pz_ret), (45, pz_ic (99) 47), (47, pz_ret)]
theorem SX0_wades : pz_Is KX0_wades (IX0_wades) := ⟨pz_s_iload_n (a := 0) (by decide +kernel) rfl, pz_s_table (len := 31) (dflt := 44) (lo := 2) (hi := 5) (offs := #[35, 31, 38, 41]) (by decide +kernel) (by decide +kernel) (by decide +kernel) (by decide +kernel) (by decide +kernel), pz_s_sipush (a := 999) (by decide +kernel) (by decide), pz_s_ireturn (by decide +kernel) rfl, pz_s_bipush (a := 30) (by decide +kernel) (by decide), pz_s_ireturn (by decide +kernel) rfl, pz_s_bipush (a := 15) (by decide +kernel) (by decide), pz_s_ireturn (by decide +kernel) rfl, pz_s_bipush (a := 60) (by decide +kernel) (by decide), pz_s_ireturn (by decide +kernel) rfl, pz_s_bipush (a := 99) (by decide +kernel) (by decide), pz_s_ireturn (by decide +kernel) rfl, trivial⟩
def IX0_worth : List (Nat × pz_I) := [(0, pz_il 0 1), (1, pz_sw [(1, 36), (2, 48), (3, 41), (4, 53), (5, 61)] 63), (36, pz_il 1 37), (37, pz_cs yX0_gluttonWorth KX0_gluttonWorth 1 40), (40, pz_ret), (41, pz_ic (2) 42), (42, pz_il 1 43), (43, pz_cs yX0_gluttonWorth KX0_gluttonWorth 1 46), (46, pz_bin (fun x y => x * y) 47), (47, pz_ret), (48, pz_il 1 49), (49, pz_cs yX0_childWorth KX0_childWorth 1 52), (52, pz_ret), (53, pz_il 1 54), (54, pz_cs yX0_childWorth KX0_childWorth 1 57), (57, pz_ic (7) 59), (59, pz_bin (fun x y => x - y) 60), (60, pz_ret), (61, pz_ic (5) 62), (62, pz_ret), (63, pz_il 1 64), (64, pz_ret)]
theorem SX0_worth : pz_Is KX0_worth (IX0_worth) := ⟨pz_s_iload_n (a := 0) (by decide +kernel) rfl, pz_s_table (len := 35) (dflt := 62) (lo := 1) (hi := 5) (offs := #[35, 47, 40, 52, 60]) (by decide +kernel) (by decide +kernel) (by decide +kernel) (by decide +kernel) (by decide +kernel), pz_s_iload_n (a := 1) (by decide +kernel) rfl, pz_s_cs (by decide +kernel) ok_X0_23 (by decide) ⟨rfl, rfl⟩, pz_s_ireturn (by decide +kernel) rfl, pz_s_iconst (a := 2) (by decide +kernel) (by decide), pz_s_iload_n (a := 1) (by decide +kernel) rfl, pz_s_cs (by decide +kernel) ok_X0_23 (by decide) ⟨rfl, rfl⟩, pz_s_imul (by decide +kernel), pz_s_ireturn (by decide +kernel) rfl, pz_s_iload_n (a := 1) (by decide +kernel) rfl, pz_s_cs (by decide +kernel) ok_X0_27 (by decide) ⟨rfl, rfl⟩, pz_s_ireturn (by decide +kernel) rfl, pz_s_iload_n (a := 1) (by decide +kernel) rfl, pz_s_cs (by decide +kernel) ok_X0_27 (by decide) ⟨rfl, rfl⟩, pz_s_bipush (a := 7) (by decide +kernel) (by decide), pz_s_isub (by decide +kernel), pz_s_ireturn (by decide +kernel) rfl, pz_s_iconst (a := 5) (by decide +kernel) (by decide), pz_s_ireturn (by decide +kernel) rfl, pz_s_iload_n (a := 1) (by decide +kernel) rfl, pz_s_ireturn (by decide +kernel) rfl, trivial⟩
def IX0_gluttonWorth : List (Nat × pz_I) := [(0, pz_il 0 1), (1, pz_ic (8) 3), (3, pz_bin (fun x y => x + y) 4), (4, pz_ret)]
theorem SX0_gluttonWorth : pz_Is KX0_gluttonWorth (IX0_gluttonWorth) := ⟨pz_s_iload_n (a := 0) (by decide +kernel) rfl, pz_s_bipush (a := 8) (by decide +kernel) (by decide), pz_s_iadd (by decide +kernel), pz_s_ireturn (by decide +kernel) rfl, trivial⟩
def IX0_childWorth : List (Nat × pz_I) := [(0, pz_ic (999) 3), (3, pz_il 0 4), (4, pz_bin (fun x y => x - y) 5), (5, pz_ret)]
theorem SX0_childWorth : pz_Is KX0_childWorth (IX0_childWorth) := ⟨pz_s_sipush (a := 999) (by decide +kernel) (by decide), pz_s_iload_n (a := 0) (by decide +kernel) rfl, pz_s_isub (by decide +kernel), pz_s_ireturn (by decide +kernel) rfl, trivial⟩
def IX1_init : List (Nat × pz_I) := [(0, pz_al 0 1), (1, pz_oinit 4), (4, pz_al 0 5), (5, pz_ic (14) 7), (7, pz_newq 2 110 2 14 10), (10, pz_puta 0 0 13), (13, pz_al 0 14), (14, pz_ic (96) 16), (16, pz_newa 2 110 0 96 18), (18, pz_puta 0 1 21), (21, pz_vret)]
theorem SX1_init : pz_Is KX1_init (IX1_init) := ⟨pz_s_aload_n (a := 0) (by decide +kernel) rfl, pz_s_oinit (by decide +kernel) (by decide) wm_X1_3 woi1 woi2, pz_s_aload_n (a := 0) (by decide +kernel) rfl, pz_s_bipush (a := 14) (by decide +kernel) (by decide), pz_s_newq (C0 := RX6) (by decide +kernel) (by decide) rfl wk_X1_11, pz_s_putaFA (t9 := (.object "LittlePot$Text")) (q0 := (RX1, TX1, 2)) (by decide +kernel) rfl (by decide) wf_X1_13 rfl (by decide +kernel) rfl rfl, pz_s_aload_n (a := 0) (by decide +kernel) rfl, pz_s_bipush (a := 96) (by decide +kernel) (by decide), pz_s_newi (by decide +kernel) (by decide) wa_int, pz_s_putaFA (t9 := .int) (q0 := (RX1, TX1, 2)) (by decide +kernel) rfl (by decide) wf_X1_17 rfl (by decide +kernel) rfl rfl, pz_s_vreturn (by decide +kernel) rfl, trivial⟩
def IX1_takes : List (Nat × pz_I) := [(0, pz_il 1 1), (1, pz_ic (0) 2), (2, pz_ic (13) 4), (4, pz_cs yX9_within KX9_within 3 7), (7, pz_if0 (fun x => ¬ x = 0) (fun x => x = 0) 12 10), (10, pz_al 2 11), (11, pz_aret), (12, pz_al 0 13), (13, pz_get 0 0 16), (16, pz_il 1 17), (17, pz_aald' 2 18), (18, pz_as 3 19), (19, pz_al 0 20), (20, pz_get 0 0 23), (23, pz_il 1 24), (24, pz_al 2 25), (25, pz_aast 2 4 26), (26, pz_al 3 27), (27, pz_ifnn 40 30), (30, pz_new 2 100 4 4 nf_4 33), (33, pz_dup 34), (34, pz_ci 2 100 yX6_init KX6_init 1 37), (37, pz_goto 41 40), (40, pz_al 3 41), (41, pz_aret)]
theorem SX1_takes : pz_Is KX1_takes (IX1_takes) := ⟨pz_s_iload_n (a := 1) (by decide +kernel) rfl, pz_s_iconst (a := 0) (by decide +kernel) (by decide), pz_s_bipush (a := 13) (by decide +kernel) (by decide), pz_s_csN (by decide +kernel) ok_X1_21 (by decide) ⟨rfl, rfl⟩, pz_s_if_ne (off := 5) (by decide +kernel) (by decide), pz_s_aload_n (a := 2) (by decide +kernel) rfl, pz_s_areturn (by decide +kernel) (Or.inl ⟨_, rfl⟩), pz_s_aload_n (a := 0) (by decide +kernel) rfl, pz_s_get (q0 := (RX1, TX1, 2)) (by decide +kernel) rfl (by decide) wf_X1_13, pz_s_iload_n (a := 1) (by decide +kernel) rfl, pz_s_aald (by decide +kernel) rfl, pz_s_astore_n (a := 3) (by decide +kernel) rfl, pz_s_aload_n (a := 0) (by decide +kernel) rfl, pz_s_get (q0 := (RX1, TX1, 2)) (by decide +kernel) rfl (by decide) wf_X1_13, pz_s_iload_n (a := 1) (by decide +kernel) rfl, pz_s_aload_n (a := 2) (by decide +kernel) rfl, pz_s_aast (ci := 4) (by decide +kernel) rfl rfl, pz_s_aload_n (a := 3) (by decide +kernel) rfl, pz_s_ifnn (off := 13) (by decide +kernel) (by decide), pz_s_new (q0 := (RX6, TX6, 4)) (by decide +kernel) rfl tyX6 tyX6_ok (by decide) (fun _ => rfl) wk_X1_11 wi_RX6 wn_RX6, pz_s_dup (by decide +kernel), pz_s_ciN (by decide +kernel) rfl ok_X1_25 (by decide), pz_s_goto (off := 4) (by decide +kernel) (by decide), pz_s_aload_n (a := 3) (by decide +kernel) rfl, pz_s_areturn (by decide +kernel) (Or.inl ⟨_, rfl⟩), trivial⟩
def IX1_numbered : List (Nat × pz_I) := [(0, pz_il 1 1), (1, pz_ic (0) 2), (2, pz_ic (13) 4), (4, pz_cs yX9_within KX9_within 3 7), (7, pz_if0 (fun x => x = 0) (fun x => ¬ x = 0) 19 10), (10, pz_al 0 11), (11, pz_get 0 0 14), (14, pz_il 1 15), (15, pz_aald' 2 16), (16, pz_goto 20 19), (19, pz_null 20), (20, pz_aret)]
theorem SX1_numbered : pz_Is KX1_numbered (IX1_numbered) := ⟨pz_s_iload_n (a := 1) (by decide +kernel) rfl, pz_s_iconst (a := 0) (by decide +kernel) (by decide), pz_s_bipush (a := 13) (by decide +kernel) (by decide), pz_s_csN (by decide +kernel) ok_X1_21 (by decide) ⟨rfl, rfl⟩, pz_s_if_eq (off := 12) (by decide +kernel) (by decide), pz_s_aload_n (a := 0) (by decide +kernel) rfl, pz_s_get (q0 := (RX1, TX1, 2)) (by decide +kernel) rfl (by decide) wf_X1_13, pz_s_iload_n (a := 1) (by decide +kernel) rfl, pz_s_aald (by decide +kernel) rfl, pz_s_goto (off := 4) (by decide +kernel) (by decide), pz_s_null (by decide +kernel), pz_s_areturn (by decide +kernel) (Or.inl ⟨_, rfl⟩), trivial⟩
def IX1_last : List (Nat × pz_I) := [(0, pz_il 2 1), (1, pz_ic (14) 3), (3, pz_mb (fun x y => if y < x then y else x) 6), (6, pz_ic (1) 7), (7, pz_bin (fun x y => x - y) 8), (8, pz_is 3 9), (9, pz_il 3 10), (10, pz_if0 (fun x => x < 0) (fun x => ¬ x < 0) 43 13), (13, pz_al 0 14), (14, pz_get 0 0 17), (17, pz_il 3 18), (18, pz_aald' 2 19), (19, pz_ifnull 37 22), (22, pz_al 0 23), (23, pz_get 0 0 26), (26, pz_il 3 27), (27, pz_aald' 2 28), (28, pz_get 4 2 31), (31, pz_il 1 32), (32, pz_if2 (fun x y => ¬ x = y) (fun x y => x = y) 37 35), (35, pz_il 3 36), (36, pz_ret), (37, pz_inc 3 (-1) 40), (40, pz_goto 9 43), (43, pz_ic (-1) 44), (44, pz_ret)]
theorem SX1_last : pz_Is KX1_last (IX1_last) := ⟨pz_s_iload_n (a := 2) (by decide +kernel) rfl, pz_s_bipush (a := 14) (by decide +kernel) (by decide), pz_s_mmin (by decide +kernel) (by decide) wm_X1_26 wms_min wmi wmc_min, pz_s_iconst (a := 1) (by decide +kernel) (by decide), pz_s_isub (by decide +kernel), pz_s_istore_n (a := 3) (by decide +kernel) rfl, pz_s_iload_n (a := 3) (by decide +kernel) rfl, pz_s_if_lt (off := 33) (by decide +kernel) (by decide), pz_s_aload_n (a := 0) (by decide +kernel) rfl, pz_s_get (q0 := (RX1, TX1, 2)) (by decide +kernel) rfl (by decide) wf_X1_13, pz_s_iload_n (a := 3) (by decide +kernel) rfl, pz_s_aald (by decide +kernel) rfl, pz_s_ifnull (off := 18) (by decide +kernel) (by decide), pz_s_aload_n (a := 0) (by decide +kernel) rfl, pz_s_get (q0 := (RX1, TX1, 2)) (by decide +kernel) rfl (by decide) wf_X1_13, pz_s_iload_n (a := 3) (by decide +kernel) rfl, pz_s_aald (by decide +kernel) rfl, pz_s_get (q0 := (RX6, TX6, 4)) (by decide +kernel) rfl (by decide) wf_X1_32, pz_s_iload_n (a := 1) (by decide +kernel) rfl, pz_s_icmp_ne (off := 5) (by decide +kernel) (by decide), pz_s_iload_n (a := 3) (by decide +kernel) rfl, pz_s_ireturn (by decide +kernel) rfl, pz_s_iinc (a := -1) (by decide +kernel) (by decide), pz_s_goto (off := -31) (by decide +kernel) (by decide), pz_s_iconst (a := -1) (by decide +kernel) (by decide), pz_s_ireturn (by decide +kernel) rfl, trivial⟩
def IX1_counting : List (Nat × pz_I) := [(0, pz_al 0 1), (1, pz_al 0 2), (2, pz_il 1 3), (3, pz_il 2 4), (4, pz_cv0 yX1_last KX1_last 0 3 7), (7, pz_cv0 yX1_numbered KX1_numbered 0 2 10), (10, pz_aret)]
theorem SX1_counting : pz_Is KX1_counting (IX1_counting) := ⟨pz_s_aload_n (a := 0) (by decide +kernel) rfl, pz_s_aload_n (a := 0) (by decide +kernel) rfl, pz_s_iload_n (a := 1) (by decide +kernel) rfl, pz_s_iload_n (a := 2) (by decide +kernel) rfl, pz_s_cv0 (q0 := (RX1, TX1, 2)) (by decide +kernel) ok_X1_36 rfl rfl (by decide) ⟨rfl, rfl⟩, pz_s_cv0 (q0 := (RX1, TX1, 2)) (by decide +kernel) ok_X1_39 rfl rfl (by decide) ⟨rfl, rfl⟩, pz_s_areturn (by decide +kernel) (Or.inl ⟨_, rfl⟩), trivial⟩
def IX1_given_0 : List (Nat × pz_I) := [(0, pz_ic (0) 1), (1, pz_is 5 3), (3, pz_ic (0) 4), (4, pz_is 6 6), (6, pz_il 6 8), (8, pz_al 1 9), (9, pz_get 4 1 12), (12, pz_if2 (fun x y => y ≤ x) (fun x y => ¬ y ≤ x) 179 15), (15, pz_al 1 16), (16, pz_get 4 0 19), (19, pz_il 6 21), (21, pz_iald 22), (22, pz_is 7 24), (24, pz_il 7 26), (26, pz_if0 (fun x => x < 0) (fun x => ¬ x < 0) 91 29), (29, pz_il 5 31), (31, pz_al 0 32), (32, pz_get 0 1 35), (35, pz_alen 36), (36, pz_if2 (fun x y => y ≤ x) (fun x y => ¬ y ≤ x) 91 39), (39, pz_al 0 40), (40, pz_get 0 1 43), (43, pz_il 5 45), (45, pz_il 7 47), (47, pz_ic (10000) 50), (50, pz_if2 (fun x y => y ≤ x) (fun x y => ¬ y ≤ x) 58 53), (53, pz_il 7 55), (55, pz_goto 84 58), (58, pz_il 7 60), (60, pz_ic (10000) 63), (63, pz_if2 (fun x y => ¬ x = y) (fun x y => x = y) 70 66), (66, pz_il 2 67), (67, pz_goto 84 70), (70, pz_il 7 72), (72, pz_ic (10001) 75), (75, pz_if2 (fun x y => ¬ x = y) (fun x y => x = y) 82 78), (78, pz_il 3 79), (79, pz_goto 84 82), (82, pz_il 4 84), (84, pz_iast 85)]
theorem SX1_given_0 : pz_Is KX1_given (IX1_given_0) := ⟨pz_s_iconst (a := 0) (by decide +kernel) (by decide), pz_s_istore (by decide +kernel), pz_s_iconst (a := 0) (by decide +kernel) (by decide), pz_s_istore (by decide +kernel), pz_s_iload (by decide +kernel), pz_s_aload_n (a := 1) (by decide +kernel) rfl, pz_s_get (q0 := (RX6, TX6, 4)) (by decide +kernel) rfl (by decide) wf_X1_43, pz_s_icmp_ge (off := 167) (by decide +kernel) (by decide), pz_s_aload_n (a := 1) (by decide +kernel) rfl, pz_s_get (q0 := (RX6, TX6, 4)) (by decide +kernel) rfl (by decide) wf_X1_46, pz_s_iload (by decide +kernel), pz_s_iald (by decide +kernel), pz_s_istore (by decide +kernel), pz_s_iload (by decide +kernel), pz_s_if_lt (off := 65) (by decide +kernel) (by decide), pz_s_iload (by decide +kernel), pz_s_aload_n (a := 0) (by decide +kernel) rfl, pz_s_get (q0 := (RX1, TX1, 2)) (by decide +kernel) rfl (by decide) wf_X1_17, pz_s_alen (by decide +kernel), pz_s_icmp_ge (off := 55) (by decide +kernel) (by decide), pz_s_aload_n (a := 0) (by decide +kernel) rfl, pz_s_get (q0 := (RX1, TX1, 2)) (by decide +kernel) rfl (by decide) wf_X1_17, pz_s_iload (by decide +kernel), pz_s_iload (by decide +kernel), pz_s_sipush (a := 10000) (by decide +kernel) (by decide), pz_s_icmp_ge (off := 8) (by decide +kernel) (by decide), pz_s_iload (by decide +kernel), pz_s_goto (off := 29) (by decide +kernel) (by decide), pz_s_iload (by decide +kernel), pz_s_sipush (a := 10000) (by decide +kernel) (by decide), pz_s_icmp_ne (off := 7) (by decide +kernel) (by decide), pz_s_iload_n (a := 2) (by decide +kernel) rfl, pz_s_goto (off := 17) (by decide +kernel) (by decide), pz_s_iload (by decide +kernel), pz_s_sipush (a := 10001) (by decide +kernel) (by decide), pz_s_icmp_ne (off := 7) (by decide +kernel) (by decide), pz_s_iload_n (a := 3) (by decide +kernel) rfl, pz_s_goto (off := 5) (by decide +kernel) (by decide), pz_s_iload (by decide +kernel), pz_s_iast (by decide +kernel), trivial⟩
def IX1_given_1 : List (Nat × pz_I) := [(85, pz_inc 5 (1) 88), (88, pz_goto 173 91), (91, pz_il 7 93), (93, pz_ic (-33) 95), (95, pz_if2 (fun x y => ¬ x = y) (fun x y => x = y) 133 98), (98, pz_il 5 100), (100, pz_ic (1) 101), (101, pz_if2 (fun x y => x < y) (fun x y => ¬ x < y) 133 104), (104, pz_al 0 105), (105, pz_get 0 1 108), (108, pz_il 5 110), (110, pz_ic (1) 111), (111, pz_bin (fun x y => x - y) 112), (112, pz_al 0 113), (113, pz_get 0 1 116), (116, pz_il 5 118), (118, pz_ic (1) 119), (119, pz_bin (fun x y => x - y) 120), (120, pz_iald 121), (121, pz_if0 (fun x => ¬ x = 0) (fun x => x = 0) 128 124), (124, pz_ic (1) 125), (125, pz_goto 129 128), (128, pz_ic (0) 129), (129, pz_iast 130), (130, pz_goto 173 133), (133, pz_il 5 135), (135, pz_ic (2) 136), (136, pz_if2 (fun x y => x < y) (fun x y => ¬ x < y) 173 139), (139, pz_inc 5 (-1) 142), (142, pz_al 0 143), (143, pz_get 0 1 146), (146, pz_il 5 148), (148, pz_ic (1) 149), (149, pz_bin (fun x y => x - y) 150), (150, pz_il 7 152), (152, pz_un (fun x => -x) 153), (153, pz_al 0 154), (154, pz_get 0 1 157), (157, pz_il 5 159), (159, pz_ic (1) 160)]
theorem SX1_given_1 : pz_Is KX1_given (IX1_given_1) := ⟨pz_s_iinc (a := 1) (by decide +kernel) (by decide), pz_s_goto (off := 85) (by decide +kernel) (by decide), pz_s_iload (by decide +kernel), pz_s_bipush (a := -33) (by decide +kernel) (by decide), pz_s_icmp_ne (off := 38) (by decide +kernel) (by decide), pz_s_iload (by decide +kernel), pz_s_iconst (a := 1) (by decide +kernel) (by decide), pz_s_icmp_lt (off := 32) (by decide +kernel) (by decide), pz_s_aload_n (a := 0) (by decide +kernel) rfl, pz_s_get (q0 := (RX1, TX1, 2)) (by decide +kernel) rfl (by decide) wf_X1_17, pz_s_iload (by decide +kernel), pz_s_iconst (a := 1) (by decide +kernel) (by decide), pz_s_isub (by decide +kernel), pz_s_aload_n (a := 0) (by decide +kernel) rfl, pz_s_get (q0 := (RX1, TX1, 2)) (by decide +kernel) rfl (by decide) wf_X1_17, pz_s_iload (by decide +kernel), pz_s_iconst (a := 1) (by decide +kernel) (by decide), pz_s_isub (by decide +kernel), pz_s_iald (by decide +kernel), pz_s_if_ne (off := 7) (by decide +kernel) (by decide), pz_s_iconst (a := 1) (by decide +kernel) (by decide), pz_s_goto (off := 4) (by decide +kernel) (by decide), pz_s_iconst (a := 0) (by decide +kernel) (by decide), pz_s_iast (by decide +kernel), pz_s_goto (off := 43) (by decide +kernel) (by decide), pz_s_iload (by decide +kernel), pz_s_iconst (a := 2) (by decide +kernel) (by decide), pz_s_icmp_lt (off := 37) (by decide +kernel) (by decide), pz_s_iinc (a := -1) (by decide +kernel) (by decide), pz_s_aload_n (a := 0) (by decide +kernel) rfl, pz_s_get (q0 := (RX1, TX1, 2)) (by decide +kernel) rfl (by decide) wf_X1_17, pz_s_iload (by decide +kernel), pz_s_iconst (a := 1) (by decide +kernel) (by decide), pz_s_isub (by decide +kernel), pz_s_iload (by decide +kernel), pz_s_ineg (by decide +kernel), pz_s_aload_n (a := 0) (by decide +kernel) rfl, pz_s_get (q0 := (RX1, TX1, 2)) (by decide +kernel) rfl (by decide) wf_X1_17, pz_s_iload (by decide +kernel), pz_s_iconst (a := 1) (by decide +kernel) (by decide), trivial⟩
def IX1_given_2 : List (Nat × pz_I) := [(160, pz_bin (fun x y => x - y) 161), (161, pz_iald 162), (162, pz_al 0 163), (163, pz_get 0 1 166), (166, pz_il 5 168), (168, pz_iald 169), (169, pz_cs yX1_joined KX1_joined 3 172), (172, pz_iast 173), (173, pz_inc 6 (1) 176), (176, pz_goto 6 179), (179, pz_al 0 180), (180, pz_get 0 1 183), (183, pz_ic (0) 184), (184, pz_iald 185), (185, pz_ret)]
theorem SX1_given_2 : pz_Is KX1_given (IX1_given_2) := ⟨pz_s_isub (by decide +kernel), pz_s_iald (by decide +kernel), pz_s_aload_n (a := 0) (by decide +kernel) rfl, pz_s_get (q0 := (RX1, TX1, 2)) (by decide +kernel) rfl (by decide) wf_X1_17, pz_s_iload (by decide +kernel), pz_s_iald (by decide +kernel), pz_s_cs (by decide +kernel) ok_X1_49 (by decide) ⟨rfl, rfl⟩, pz_s_iast (by decide +kernel), pz_s_iinc (a := 1) (by decide +kernel) (by decide), pz_s_goto (off := -170) (by decide +kernel) (by decide), pz_s_aload_n (a := 0) (by decide +kernel) rfl, pz_s_get (q0 := (RX1, TX1, 2)) (by decide +kernel) rfl (by decide) wf_X1_17, pz_s_iconst (a := 0) (by decide +kernel) (by decide), pz_s_iald (by decide +kernel), pz_s_ireturn (by decide +kernel) rfl, trivial⟩
def IX1_given : List (Nat × pz_I) := IX1_given_0 ++ (IX1_given_1 ++ (IX1_given_2))
theorem SX1_given : pz_Is KX1_given (IX1_given) := pz_Is_app (SX1_given_0) (pz_Is_app (SX1_given_1) (SX1_given_2))
def IX1_joined_0 : List (Nat × pz_I) := [(0, pz_il 0 1), (1, pz_sw [(38, 90), (42, 145), (43, 137), (45, 141), (60, 104), (61, 115), (62, 126), (124, 76)] 149), (76, pz_il 1 77), (77, pz_if0 (fun x => ¬ x = 0) (fun x => x = 0) 84 80), (80, pz_il 2 81), (81, pz_if0 (fun x => x = 0) (fun x => ¬ x = 0) 88 84), (84, pz_ic (1) 85), (85, pz_goto 89 88), (88, pz_ic (0) 89), (89, pz_ret), (90, pz_il 1 91), (91, pz_if0 (fun x => x = 0) (fun x => ¬ x = 0) 102 94), (94, pz_il 2 95), (95, pz_if0 (fun x => x = 0) (fun x => ¬ x = 0) 102 98), (98, pz_ic (1) 99), (99, pz_goto 103 102), (102, pz_ic (0) 103), (103, pz_ret), (104, pz_il 1 105), (105, pz_il 2 106), (106, pz_if2 (fun x y => y ≤ x) (fun x y => ¬ y ≤ x) 113 109), (109, pz_ic (1) 110), (110, pz_goto 114 113), (113, pz_ic (0) 114), (114, pz_ret), (115, pz_il 1 116), (116, pz_il 2 117), (117, pz_if2 (fun x y => ¬ x = y) (fun x y => x = y) 124 120), (120, pz_ic (1) 121), (121, pz_goto 125 124), (124, pz_ic (0) 125), (125, pz_ret), (126, pz_il 1 127), (127, pz_il 2 128), (128, pz_if2 (fun x y => x ≤ y) (fun x y => ¬ x ≤ y) 135 131), (131, pz_ic (1) 132), (132, pz_goto 136 135), (135, pz_ic (0) 136), (136, pz_ret), (137, pz_il 1 138)]
theorem SX1_joined_0 : pz_Is KX1_joined (IX1_joined_0) := ⟨pz_s_iload_n (a := 0) (by decide +kernel) rfl, pz_s_lookup (len := 75) (dflt := 148) (ps := #[(38, 89), (42, 144), (43, 136), (45, 140), (60, 103), (61, 114), (62, 125), (124, 75)]) (by decide +kernel) (by decide +kernel) (by decide +kernel) (by decide +kernel), pz_s_iload_n (a := 1) (by decide +kernel) rfl, pz_s_if_ne (off := 7) (by decide +kernel) (by decide), pz_s_iload_n (a := 2) (by decide +kernel) rfl, pz_s_if_eq (off := 7) (by decide +kernel) (by decide), pz_s_iconst (a := 1) (by decide +kernel) (by decide), pz_s_goto (off := 4) (by decide +kernel) (by decide), pz_s_iconst (a := 0) (by decide +kernel) (by decide), pz_s_ireturn (by decide +kernel) rfl, pz_s_iload_n (a := 1) (by decide +kernel) rfl, pz_s_if_eq (off := 11) (by decide +kernel) (by decide), pz_s_iload_n (a := 2) (by decide +kernel) rfl, pz_s_if_eq (off := 7) (by decide +kernel) (by decide), pz_s_iconst (a := 1) (by decide +kernel) (by decide), pz_s_goto (off := 4) (by decide +kernel) (by decide), pz_s_iconst (a := 0) (by decide +kernel) (by decide), pz_s_ireturn (by decide +kernel) rfl, pz_s_iload_n (a := 1) (by decide +kernel) rfl, pz_s_iload_n (a := 2) (by decide +kernel) rfl, pz_s_icmp_ge (off := 7) (by decide +kernel) (by decide), pz_s_iconst (a := 1) (by decide +kernel) (by decide), pz_s_goto (off := 4) (by decide +kernel) (by decide), pz_s_iconst (a := 0) (by decide +kernel) (by decide), pz_s_ireturn (by decide +kernel) rfl, pz_s_iload_n (a := 1) (by decide +kernel) rfl, pz_s_iload_n (a := 2) (by decide +kernel) rfl, pz_s_icmp_ne (off := 7) (by decide +kernel) (by decide), pz_s_iconst (a := 1) (by decide +kernel) (by decide), pz_s_goto (off := 4) (by decide +kernel) (by decide), pz_s_iconst (a := 0) (by decide +kernel) (by decide), pz_s_ireturn (by decide +kernel) rfl, pz_s_iload_n (a := 1) (by decide +kernel) rfl, pz_s_iload_n (a := 2) (by decide +kernel) rfl, pz_s_icmp_le (off := 7) (by decide +kernel) (by decide), pz_s_iconst (a := 1) (by decide +kernel) (by decide), pz_s_goto (off := 4) (by decide +kernel) (by decide), pz_s_iconst (a := 0) (by decide +kernel) (by decide), pz_s_ireturn (by decide +kernel) rfl, pz_s_iload_n (a := 1) (by decide +kernel) rfl, trivial⟩
def IX1_joined_1 : List (Nat × pz_I) := [(138, pz_il 2 139), (139, pz_bin (fun x y => x + y) 140), (140, pz_ret), (141, pz_il 1 142), (142, pz_il 2 143), (143, pz_bin (fun x y => x - y) 144), (144, pz_ret), (145, pz_il 1 146), (146, pz_il 2 147), (147, pz_bin (fun x y => x * y) 148), (148, pz_ret), (149, pz_il 2 150), (150, pz_if0 (fun x => ¬ x = 0) (fun x => x = 0) 157 153), (153, pz_ic (0) 154), (154, pz_goto 160 157), (157, pz_il 1 158), (158, pz_il 2 159), (159, pz_div (fun x y => x / y) 160), (160, pz_ret)]
theorem SX1_joined_1 : pz_Is KX1_joined (IX1_joined_1) := ⟨pz_s_iload_n (a := 2) (by decide +kernel) rfl, pz_s_iadd (by decide +kernel), pz_s_ireturn (by decide +kernel) rfl, pz_s_iload_n (a := 1) (by decide +kernel) rfl, pz_s_iload_n (a := 2) (by decide +kernel) rfl, pz_s_isub (by decide +kernel), pz_s_ireturn (by decide +kernel) rfl, pz_s_iload_n (a := 1) (by decide +kernel) rfl, pz_s_iload_n (a := 2) (by decide +kernel) rfl, pz_s_imul (by decide +kernel), pz_s_ireturn (by decide +kernel) rfl, pz_s_iload_n (a := 2) (by decide +kernel) rfl, pz_s_if_ne (off := 7) (by decide +kernel) (by decide), pz_s_iconst (a := 0) (by decide +kernel) (by decide), pz_s_goto (off := 6) (by decide +kernel) (by decide), pz_s_iload_n (a := 1) (by decide +kernel) rfl, pz_s_iload_n (a := 2) (by decide +kernel) rfl, pz_s_idiv (by decide +kernel), pz_s_ireturn (by decide +kernel) rfl, trivial⟩
def IX1_joined : List (Nat × pz_I) := IX1_joined_0 ++ (IX1_joined_1)
theorem SX1_joined : pz_Is KX1_joined (IX1_joined) := pz_Is_app (SX1_joined_0) (SX1_joined_1)
def IX2_beside : List (Nat × pz_I) := [(0, pz_gst 3 3), (3, pz_ic (4) 4), (4, pz_il 0 5), (5, pz_bin (fun x y => x * y) 6), (6, pz_il 1 7), (7, pz_bin (fun x y => x + y) 8), (8, pz_sald 3 9), (9, pz_ret)]
theorem SX2_beside : pz_Is KX2_beside (IX2_beside) := ⟨pz_s_gst (i := 7) (by decide +kernel) (by decide) wf_X2_7, pz_s_iconst (a := 4) (by decide +kernel) (by decide), pz_s_iload_n (a := 0) (by decide +kernel) rfl, pz_s_imul (by decide +kernel), pz_s_iload_n (a := 1) (by decide +kernel) rfl, pz_s_iadd (by decide +kernel), pz_s_sald (by decide +kernel) (by decide), pz_s_ireturn (by decide +kernel) rfl, trivial⟩
def IX3_init : List (Nat × pz_I) := [(0, pz_al 0 1), (1, pz_oinit 4), (4, pz_al 0 5), (5, pz_new 3 196 4 4 nf_4 8), (8, pz_dup 9), (9, pz_ci 3 196 yX6_init KX6_init 1 12), (12, pz_puta 1 0 15), (15, pz_al 0 16), (16, pz_ic (96) 18), (18, pz_newa 3 196 1 96 20), (20, pz_puta 1 2 23), (23, pz_vret)]
theorem SX3_init : pz_Is KX3_init (IX3_init) := ⟨pz_s_aload_n (a := 0) (by decide +kernel) rfl, pz_s_oinit (by decide +kernel) (by decide) wm_X3_3 woi1 woi2, pz_s_aload_n (a := 0) (by decide +kernel) rfl, pz_s_new (q0 := (RX6, TX6, 4)) (by decide +kernel) rfl tyX6 tyX6_ok (by decide) (fun _ => rfl) wk_X3_9 wi_RX6 wn_RX6, pz_s_dup (by decide +kernel), pz_s_ciN (by decide +kernel) rfl ok_X3_11 (by decide), pz_s_puta (nm := "LittlePot$Text") (q0 := (RX3, TX3, 8)) (by decide +kernel) rfl (by decide) wf_X3_12 rfl (by decide +kernel), pz_s_aload_n (a := 0) (by decide +kernel) rfl, pz_s_bipush (a := 96) (by decide +kernel) (by decide), pz_s_newb (by decide +kernel) (by decide) wa_byte, pz_s_putaFA (t9 := .byte) (q0 := (RX3, TX3, 8)) (by decide +kernel) rfl (by decide) wf_X3_18 rfl (by decide +kernel) rfl rfl, pz_s_vreturn (by decide +kernel) rfl, trivial⟩
def IX3_getsNumber : List (Nat × pz_I) := [(0, pz_ic (24) 2), (2, pz_is 2 3), (3, pz_il 2 4), (4, pz_if0 (fun x => x < 0) (fun x => ¬ x < 0) 45 7), (7, pz_al 0 8), (8, pz_get 1 1 11), (11, pz_ic (96) 13), (13, pz_if2 (fun x y => y ≤ x) (fun x y => ¬ y ≤ x) 45 16), (16, pz_al 0 17), (17, pz_get 1 2 20), (20, pz_al 0 21), (21, pz_get 1 1 24), (24, pz_il 1 25), (25, pz_il 2 26), (26, pz_bin (fun x y => x >>> (y &&& 31)) 27), (27, pz_un (fun x => x.toInt8.toInt32) 28), (28, pz_bast 29), (29, pz_al 0 30), (30, pz_dup 31), (31, pz_get 1 1 34), (34, pz_ic (1) 35), (35, pz_bin (fun x y => x + y) 36), (36, pz_puti 1 1 39), (39, pz_inc 2 (-8) 42), (42, pz_goto 3 45), (45, pz_vret)]
theorem SX3_getsNumber : pz_Is KX3_getsNumber (IX3_getsNumber) := ⟨pz_s_bipush (a := 24) (by decide +kernel) (by decide), pz_s_istore_n (a := 2) (by decide +kernel) rfl, pz_s_iload_n (a := 2) (by decide +kernel) rfl, pz_s_if_lt (off := 41) (by decide +kernel) (by decide), pz_s_aload_n (a := 0) (by decide +kernel) rfl, pz_s_get (q0 := (RX3, TX3, 8)) (by decide +kernel) rfl (by decide) wf_X3_22, pz_s_bipush (a := 96) (by decide +kernel) (by decide), pz_s_icmp_ge (off := 32) (by decide +kernel) (by decide), pz_s_aload_n (a := 0) (by decide +kernel) rfl, pz_s_get (q0 := (RX3, TX3, 8)) (by decide +kernel) rfl (by decide) wf_X3_18, pz_s_aload_n (a := 0) (by decide +kernel) rfl, pz_s_get (q0 := (RX3, TX3, 8)) (by decide +kernel) rfl (by decide) wf_X3_22, pz_s_iload_n (a := 1) (by decide +kernel) rfl, pz_s_iload_n (a := 2) (by decide +kernel) rfl, pz_s_ishr (by decide +kernel), pz_s_i2b (by decide +kernel), pz_s_bast (by decide +kernel), pz_s_aload_n (a := 0) (by decide +kernel) rfl, pz_s_dup (by decide +kernel), pz_s_get (q0 := (RX3, TX3, 8)) (by decide +kernel) rfl (by decide) wf_X3_22, pz_s_iconst (a := 1) (by decide +kernel) (by decide), pz_s_iadd (by decide +kernel), pz_s_puti (q0 := (RX3, TX3, 8)) (by decide +kernel) rfl (by decide) wf_X3_22 rfl (by decide +kernel), pz_s_iinc (a := -8) (by decide +kernel) (by decide), pz_s_goto (off := -39) (by decide +kernel) (by decide), pz_s_vreturn (by decide +kernel) rfl, trivial⟩
def IX3_findsFault_0 : List (Nat × pz_I) := [(0, pz_al 0 1), (1, pz_ic (0) 2), (2, pz_puti 1 3 5), (5, pz_al 0 6), (6, pz_ic (0) 7), (7, pz_puti 1 4 10), (10, pz_al 0 11), (11, pz_ic (0) 12), (12, pz_puti 1 5 15), (15, pz_al 0 16), (16, pz_ic (0) 17), (17, pz_puti 1 6 20), (20, pz_al 0 21), (21, pz_ic (0) 22), (22, pz_puti 1 7 25), (25, pz_al 0 26), (26, pz_cv0 yX3_goesOn KX3_goesOn 1 1 29), (29, pz_al 0 30), (30, pz_cv0 yX3_keyHere KX3_keyHere 1 1 33), (33, pz_is 1 34), (34, pz_il 1 35), (35, pz_if0 (fun x => 0 ≤ x) (fun x => ¬ 0 ≤ x) 43 38), (38, pz_al 0 39), (39, pz_get 1 4 42), (42, pz_ret), (43, pz_al 0 44), (44, pz_get 1 0 47), (47, pz_il 1 48), (48, pz_cv0 yX6_begins KX6_begins 4 2 51), (51, pz_al 0 52), (52, pz_cv0 yX3_goesOn KX3_goesOn 1 1 55), (55, pz_al 0 56), (56, pz_cv0 yX3_readsOr (KX3_readsOr 149) 1 1 59), (59, pz_if0 (fun x => x = 0) (fun x => ¬ x = 0) 73 62), (62, pz_al 0 63), (63, pz_get 1 3 66), (66, pz_if0 (fun x => ¬ x = 0) (fun x => x = 0) 73 69), (69, pz_ic (-1) 70), (70, pz_goto 77 73), (73, pz_al 0 74)]
theorem SX3_findsFault_0 : pz_Is KX3_findsFault (IX3_findsFault_0) := ⟨pz_s_aload_n (a := 0) (by decide +kernel) rfl, pz_s_iconst (a := 0) (by decide +kernel) (by decide), pz_s_puti (q0 := (RX3, TX3, 8)) (by decide +kernel) rfl (by decide) wf_X3_26 rfl (by decide +kernel), pz_s_aload_n (a := 0) (by decide +kernel) rfl, pz_s_iconst (a := 0) (by decide +kernel) (by decide), pz_s_puti (q0 := (RX3, TX3, 8)) (by decide +kernel) rfl (by decide) wf_X3_29 rfl (by decide +kernel), pz_s_aload_n (a := 0) (by decide +kernel) rfl, pz_s_iconst (a := 0) (by decide +kernel) (by decide), pz_s_puti (q0 := (RX3, TX3, 8)) (by decide +kernel) rfl (by decide) wf_X3_32 rfl (by decide +kernel), pz_s_aload_n (a := 0) (by decide +kernel) rfl, pz_s_iconst (a := 0) (by decide +kernel) (by decide), pz_s_puti (q0 := (RX3, TX3, 8)) (by decide +kernel) rfl (by decide) wf_X3_35 rfl (by decide +kernel), pz_s_aload_n (a := 0) (by decide +kernel) rfl, pz_s_iconst (a := 0) (by decide +kernel) (by decide), pz_s_puti (q0 := (RX3, TX3, 8)) (by decide +kernel) rfl (by decide) wf_X3_38 rfl (by decide +kernel), pz_s_aload_n (a := 0) (by decide +kernel) rfl, pz_s_cv0 (q0 := (RX3, TX3, 8)) (by decide +kernel) ok_X3_41 rfl rfl (by decide) ⟨rfl, rfl⟩, pz_s_aload_n (a := 0) (by decide +kernel) rfl, pz_s_cv0 (q0 := (RX3, TX3, 8)) (by decide +kernel) ok_X3_44 rfl rfl (by decide) ⟨rfl, rfl⟩, pz_s_istore_n (a := 1) (by decide +kernel) rfl, pz_s_iload_n (a := 1) (by decide +kernel) rfl, pz_s_if_ge (off := 8) (by decide +kernel) (by decide), pz_s_aload_n (a := 0) (by decide +kernel) rfl, pz_s_get (q0 := (RX3, TX3, 8)) (by decide +kernel) rfl (by decide) wf_X3_29, pz_s_ireturn (by decide +kernel) rfl, pz_s_aload_n (a := 0) (by decide +kernel) rfl, pz_s_get (q0 := (RX3, TX3, 8)) (by decide +kernel) rfl (by decide) wf_X3_12, pz_s_iload_n (a := 1) (by decide +kernel) rfl, pz_s_cv0 (q0 := (RX6, TX6, 4)) (by decide +kernel) ok_X3_48 rfl rfl (by decide) ⟨rfl, rfl⟩, pz_s_aload_n (a := 0) (by decide +kernel) rfl, pz_s_cv0 (q0 := (RX3, TX3, 8)) (by decide +kernel) ok_X3_41 rfl rfl (by decide) ⟨rfl, rfl⟩, pz_s_aload_n (a := 0) (by decide +kernel) rfl, pz_s_cv0 (q0 := (RX3, TX3, 8)) (by decide +kernel) ok_X3_52 rfl rfl (by decide) ⟨rfl, rfl⟩, pz_s_if_eq (off := 14) (by decide +kernel) (by decide), pz_s_aload_n (a := 0) (by decide +kernel) rfl, pz_s_get (q0 := (RX3, TX3, 8)) (by decide +kernel) rfl (by decide) wf_X3_26, pz_s_if_ne (off := 7) (by decide +kernel) (by decide), pz_s_iconst (a := -1) (by decide +kernel) (by decide), pz_s_goto (off := 7) (by decide +kernel) (by decide), pz_s_aload_n (a := 0) (by decide +kernel) rfl, trivial⟩
def IX3_findsFault_1 : List (Nat × pz_I) := [(74, pz_get 1 4 77), (77, pz_ret)]
theorem SX3_findsFault_1 : pz_Is KX3_findsFault (IX3_findsFault_1) := ⟨pz_s_get (q0 := (RX3, TX3, 8)) (by decide +kernel) rfl (by decide) wf_X3_29, pz_s_ireturn (by decide +kernel) rfl, trivial⟩
def IX3_findsFault : List (Nat × pz_I) := IX3_findsFault_0 ++ (IX3_findsFault_1)
theorem SX3_findsFault : pz_Is KX3_findsFault (IX3_findsFault) := pz_Is_app (SX3_findsFault_0) (SX3_findsFault_1)
def IX3_goesOn_0 : List (Nat × pz_I) := [(0, pz_al 0 1), (1, pz_get 1 3 4), (4, pz_ic (1) 5), (5, pz_if2 (fun x y => x = y) (fun x y => ¬ x = y) 16 8), (8, pz_al 0 9), (9, pz_get 1 3 12), (12, pz_ic (2) 13), (13, pz_if2 (fun x y => ¬ x = y) (fun x y => x = y) 20 16), (16, pz_ic (1) 17), (17, pz_goto 21 20), (20, pz_ic (0) 21), (21, pz_is 1 22), (22, pz_al 0 23), (23, pz_get 1 5 26), (26, pz_is 2 27), (27, pz_al 0 28), (28, pz_al 0 29), (29, pz_get 1 5 32), (32, pz_puti 1 4 35), (35, pz_al 0 36), (36, pz_get 1 4 39), (39, pz_al 0 40), (40, pz_get 1 1 43), (43, pz_if2 (fun x y => y ≤ x) (fun x y => ¬ y ≤ x) 73 46), (46, pz_al 0 47), (47, pz_get 1 2 50), (50, pz_al 0 51), (51, pz_get 1 4 54), (54, pz_bald 55), (55, pz_ic (32) 57), (57, pz_if2 (fun x y => ¬ x = y) (fun x y => x = y) 73 60), (60, pz_al 0 61), (61, pz_dup 62), (62, pz_get 1 4 65), (65, pz_ic (1) 66), (66, pz_bin (fun x y => x + y) 67), (67, pz_puti 1 4 70), (70, pz_goto 35 73), (73, pz_al 0 74), (74, pz_al 0 75)]
theorem SX3_goesOn_0 : pz_Is KX3_goesOn (IX3_goesOn_0) := ⟨pz_s_aload_n (a := 0) (by decide +kernel) rfl, pz_s_get (q0 := (RX3, TX3, 8)) (by decide +kernel) rfl (by decide) wf_X3_26, pz_s_iconst (a := 1) (by decide +kernel) (by decide), pz_s_icmp_eq (off := 11) (by decide +kernel) (by decide), pz_s_aload_n (a := 0) (by decide +kernel) rfl, pz_s_get (q0 := (RX3, TX3, 8)) (by decide +kernel) rfl (by decide) wf_X3_26, pz_s_iconst (a := 2) (by decide +kernel) (by decide), pz_s_icmp_ne (off := 7) (by decide +kernel) (by decide), pz_s_iconst (a := 1) (by decide +kernel) (by decide), pz_s_goto (off := 4) (by decide +kernel) (by decide), pz_s_iconst (a := 0) (by decide +kernel) (by decide), pz_s_istore_n (a := 1) (by decide +kernel) rfl, pz_s_aload_n (a := 0) (by decide +kernel) rfl, pz_s_get (q0 := (RX3, TX3, 8)) (by decide +kernel) rfl (by decide) wf_X3_32, pz_s_istore_n (a := 2) (by decide +kernel) rfl, pz_s_aload_n (a := 0) (by decide +kernel) rfl, pz_s_aload_n (a := 0) (by decide +kernel) rfl, pz_s_get (q0 := (RX3, TX3, 8)) (by decide +kernel) rfl (by decide) wf_X3_32, pz_s_puti (q0 := (RX3, TX3, 8)) (by decide +kernel) rfl (by decide) wf_X3_29 rfl (by decide +kernel), pz_s_aload_n (a := 0) (by decide +kernel) rfl, pz_s_get (q0 := (RX3, TX3, 8)) (by decide +kernel) rfl (by decide) wf_X3_29, pz_s_aload_n (a := 0) (by decide +kernel) rfl, pz_s_get (q0 := (RX3, TX3, 8)) (by decide +kernel) rfl (by decide) wf_X3_22, pz_s_icmp_ge (off := 30) (by decide +kernel) (by decide), pz_s_aload_n (a := 0) (by decide +kernel) rfl, pz_s_get (q0 := (RX3, TX3, 8)) (by decide +kernel) rfl (by decide) wf_X3_18, pz_s_aload_n (a := 0) (by decide +kernel) rfl, pz_s_get (q0 := (RX3, TX3, 8)) (by decide +kernel) rfl (by decide) wf_X3_29, pz_s_bald (by decide +kernel), pz_s_bipush (a := 32) (by decide +kernel) (by decide), pz_s_icmp_ne (off := 16) (by decide +kernel) (by decide), pz_s_aload_n (a := 0) (by decide +kernel) rfl, pz_s_dup (by decide +kernel), pz_s_get (q0 := (RX3, TX3, 8)) (by decide +kernel) rfl (by decide) wf_X3_29, pz_s_iconst (a := 1) (by decide +kernel) (by decide), pz_s_iadd (by decide +kernel), pz_s_puti (q0 := (RX3, TX3, 8)) (by decide +kernel) rfl (by decide) wf_X3_29 rfl (by decide +kernel), pz_s_goto (off := -35) (by decide +kernel) (by decide), pz_s_aload_n (a := 0) (by decide +kernel) rfl, pz_s_aload_n (a := 0) (by decide +kernel) rfl, trivial⟩
def IX3_goesOn_1 : List (Nat × pz_I) := [(75, pz_get 1 4 78), (78, pz_puti 1 5 81), (81, pz_al 0 82), (82, pz_get 1 4 85), (85, pz_al 0 86), (86, pz_get 1 1 89), (89, pz_if2 (fun x y => x < y) (fun x y => ¬ x < y) 100 92), (92, pz_al 0 93), (93, pz_ic (0) 94), (94, pz_puti 1 3 97), (97, pz_goto 240 100), (100, pz_al 0 101), (101, pz_al 0 102), (102, pz_get 1 4 105), (105, pz_cv0 yX3_isLetter KX3_isLetter 1 2 108), (108, pz_if0 (fun x => x = 0) (fun x => ¬ x = 0) 154 111), (111, pz_al 0 112), (112, pz_get 1 5 115), (115, pz_al 0 116), (116, pz_get 1 1 119), (119, pz_if2 (fun x y => y ≤ x) (fun x y => ¬ y ≤ x) 146 122), (122, pz_al 0 123), (123, pz_al 0 124), (124, pz_get 1 5 127), (127, pz_cv0 yX3_isLetter KX3_isLetter 1 2 130), (130, pz_if0 (fun x => x = 0) (fun x => ¬ x = 0) 146 133), (133, pz_al 0 134), (134, pz_dup 135), (135, pz_get 1 5 138), (138, pz_ic (1) 139), (139, pz_bin (fun x y => x + y) 140), (140, pz_puti 1 5 143), (143, pz_goto 111 146), (146, pz_al 0 147), (147, pz_ic (1) 148), (148, pz_puti 1 3 151), (151, pz_goto 240 154), (154, pz_al 0 155), (155, pz_al 0 156), (156, pz_get 1 4 159)]
theorem SX3_goesOn_1 : pz_Is KX3_goesOn (IX3_goesOn_1) := ⟨pz_s_get (q0 := (RX3, TX3, 8)) (by decide +kernel) rfl (by decide) wf_X3_29, pz_s_puti (q0 := (RX3, TX3, 8)) (by decide +kernel) rfl (by decide) wf_X3_32 rfl (by decide +kernel), pz_s_aload_n (a := 0) (by decide +kernel) rfl, pz_s_get (q0 := (RX3, TX3, 8)) (by decide +kernel) rfl (by decide) wf_X3_29, pz_s_aload_n (a := 0) (by decide +kernel) rfl, pz_s_get (q0 := (RX3, TX3, 8)) (by decide +kernel) rfl (by decide) wf_X3_22, pz_s_icmp_lt (off := 11) (by decide +kernel) (by decide), pz_s_aload_n (a := 0) (by decide +kernel) rfl, pz_s_iconst (a := 0) (by decide +kernel) (by decide), pz_s_puti (q0 := (RX3, TX3, 8)) (by decide +kernel) rfl (by decide) wf_X3_26 rfl (by decide +kernel), pz_s_goto (off := 143) (by decide +kernel) (by decide), pz_s_aload_n (a := 0) (by decide +kernel) rfl, pz_s_aload_n (a := 0) (by decide +kernel) rfl, pz_s_get (q0 := (RX3, TX3, 8)) (by decide +kernel) rfl (by decide) wf_X3_29, pz_s_cv0 (q0 := (RX3, TX3, 8)) (by decide +kernel) ok_X3_56 rfl rfl (by decide) ⟨rfl, rfl⟩, pz_s_if_eq (off := 46) (by decide +kernel) (by decide), pz_s_aload_n (a := 0) (by decide +kernel) rfl, pz_s_get (q0 := (RX3, TX3, 8)) (by decide +kernel) rfl (by decide) wf_X3_32, pz_s_aload_n (a := 0) (by decide +kernel) rfl, pz_s_get (q0 := (RX3, TX3, 8)) (by decide +kernel) rfl (by decide) wf_X3_22, pz_s_icmp_ge (off := 27) (by decide +kernel) (by decide), pz_s_aload_n (a := 0) (by decide +kernel) rfl, pz_s_aload_n (a := 0) (by decide +kernel) rfl, pz_s_get (q0 := (RX3, TX3, 8)) (by decide +kernel) rfl (by decide) wf_X3_32, pz_s_cv0 (q0 := (RX3, TX3, 8)) (by decide +kernel) ok_X3_56 rfl rfl (by decide) ⟨rfl, rfl⟩, pz_s_if_eq (off := 16) (by decide +kernel) (by decide), pz_s_aload_n (a := 0) (by decide +kernel) rfl, pz_s_dup (by decide +kernel), pz_s_get (q0 := (RX3, TX3, 8)) (by decide +kernel) rfl (by decide) wf_X3_32, pz_s_iconst (a := 1) (by decide +kernel) (by decide), pz_s_iadd (by decide +kernel), pz_s_puti (q0 := (RX3, TX3, 8)) (by decide +kernel) rfl (by decide) wf_X3_32 rfl (by decide +kernel), pz_s_goto (off := -32) (by decide +kernel) (by decide), pz_s_aload_n (a := 0) (by decide +kernel) rfl, pz_s_iconst (a := 1) (by decide +kernel) (by decide), pz_s_puti (q0 := (RX3, TX3, 8)) (by decide +kernel) rfl (by decide) wf_X3_26 rfl (by decide +kernel), pz_s_goto (off := 89) (by decide +kernel) (by decide), pz_s_aload_n (a := 0) (by decide +kernel) rfl, pz_s_aload_n (a := 0) (by decide +kernel) rfl, pz_s_get (q0 := (RX3, TX3, 8)) (by decide +kernel) rfl (by decide) wf_X3_29, trivial⟩
def IX3_goesOn_2 : List (Nat × pz_I) := [(159, pz_cv0 yX3_isDigit KX3_isDigit 1 2 162), (162, pz_if0 (fun x => x = 0) (fun x => ¬ x = 0) 225 165), (165, pz_al 0 166), (166, pz_get 1 5 169), (169, pz_al 0 170), (170, pz_get 1 1 173), (173, pz_if2 (fun x y => y ≤ x) (fun x y => ¬ y ≤ x) 200 176), (176, pz_al 0 177), (177, pz_al 0 178), (178, pz_get 1 5 181), (181, pz_cv0 yX3_isDigit KX3_isDigit 1 2 184), (184, pz_if0 (fun x => x = 0) (fun x => ¬ x = 0) 200 187), (187, pz_al 0 188), (188, pz_dup 189), (189, pz_get 1 5 192), (192, pz_ic (1) 193), (193, pz_bin (fun x y => x + y) 194), (194, pz_puti 1 5 197), (197, pz_goto 165 200), (200, pz_al 0 201), (201, pz_al 0 202), (202, pz_get 1 5 205), (205, pz_al 0 206), (206, pz_get 1 4 209), (209, pz_bin (fun x y => x - y) 210), (210, pz_ic (4) 211), (211, pz_if2 (fun x y => x ≤ y) (fun x y => ¬ x ≤ y) 218 214), (214, pz_ic (4) 215), (215, pz_goto 219 218), (218, pz_ic (2) 219), (219, pz_puti 1 3 222), (222, pz_goto 240 225), (225, pz_al 0 226), (226, pz_dup 227), (227, pz_get 1 5 230), (230, pz_ic (1) 231), (231, pz_bin (fun x y => x + y) 232), (232, pz_puti 1 5 235), (235, pz_al 0 236), (236, pz_ic (3) 237)]
theorem SX3_goesOn_2 : pz_Is KX3_goesOn (IX3_goesOn_2) := ⟨pz_s_cv0 (q0 := (RX3, TX3, 8)) (by decide +kernel) ok_X3_60 rfl rfl (by decide) ⟨rfl, rfl⟩, pz_s_if_eq (off := 63) (by decide +kernel) (by decide), pz_s_aload_n (a := 0) (by decide +kernel) rfl, pz_s_get (q0 := (RX3, TX3, 8)) (by decide +kernel) rfl (by decide) wf_X3_32, pz_s_aload_n (a := 0) (by decide +kernel) rfl, pz_s_get (q0 := (RX3, TX3, 8)) (by decide +kernel) rfl (by decide) wf_X3_22, pz_s_icmp_ge (off := 27) (by decide +kernel) (by decide), pz_s_aload_n (a := 0) (by decide +kernel) rfl, pz_s_aload_n (a := 0) (by decide +kernel) rfl, pz_s_get (q0 := (RX3, TX3, 8)) (by decide +kernel) rfl (by decide) wf_X3_32, pz_s_cv0 (q0 := (RX3, TX3, 8)) (by decide +kernel) ok_X3_60 rfl rfl (by decide) ⟨rfl, rfl⟩, pz_s_if_eq (off := 16) (by decide +kernel) (by decide), pz_s_aload_n (a := 0) (by decide +kernel) rfl, pz_s_dup (by decide +kernel), pz_s_get (q0 := (RX3, TX3, 8)) (by decide +kernel) rfl (by decide) wf_X3_32, pz_s_iconst (a := 1) (by decide +kernel) (by decide), pz_s_iadd (by decide +kernel), pz_s_puti (q0 := (RX3, TX3, 8)) (by decide +kernel) rfl (by decide) wf_X3_32 rfl (by decide +kernel), pz_s_goto (off := -32) (by decide +kernel) (by decide), pz_s_aload_n (a := 0) (by decide +kernel) rfl, pz_s_aload_n (a := 0) (by decide +kernel) rfl, pz_s_get (q0 := (RX3, TX3, 8)) (by decide +kernel) rfl (by decide) wf_X3_32, pz_s_aload_n (a := 0) (by decide +kernel) rfl, pz_s_get (q0 := (RX3, TX3, 8)) (by decide +kernel) rfl (by decide) wf_X3_29, pz_s_isub (by decide +kernel), pz_s_iconst (a := 4) (by decide +kernel) (by decide), pz_s_icmp_le (off := 7) (by decide +kernel) (by decide), pz_s_iconst (a := 4) (by decide +kernel) (by decide), pz_s_goto (off := 4) (by decide +kernel) (by decide), pz_s_iconst (a := 2) (by decide +kernel) (by decide), pz_s_puti (q0 := (RX3, TX3, 8)) (by decide +kernel) rfl (by decide) wf_X3_26 rfl (by decide +kernel), pz_s_goto (off := 18) (by decide +kernel) (by decide), pz_s_aload_n (a := 0) (by decide +kernel) rfl, pz_s_dup (by decide +kernel), pz_s_get (q0 := (RX3, TX3, 8)) (by decide +kernel) rfl (by decide) wf_X3_32, pz_s_iconst (a := 1) (by decide +kernel) (by decide), pz_s_iadd (by decide +kernel), pz_s_puti (q0 := (RX3, TX3, 8)) (by decide +kernel) rfl (by decide) wf_X3_32 rfl (by decide +kernel), pz_s_aload_n (a := 0) (by decide +kernel) rfl, pz_s_iconst (a := 3) (by decide +kernel) (by decide), trivial⟩
def IX3_goesOn_3 : List (Nat × pz_I) := [(237, pz_puti 1 3 240), (240, pz_il 1 241), (241, pz_if0 (fun x => x = 0) (fun x => ¬ x = 0) 273 244), (244, pz_al 0 245), (245, pz_get 1 4 248), (248, pz_il 2 249), (249, pz_if2 (fun x y => ¬ x = y) (fun x y => x = y) 273 252), (252, pz_al 0 253), (253, pz_get 1 3 256), (256, pz_ic (1) 257), (257, pz_if2 (fun x y => x = y) (fun x y => ¬ x = y) 268 260), (260, pz_al 0 261), (261, pz_get 1 3 264), (264, pz_ic (2) 265), (265, pz_if2 (fun x y => ¬ x = y) (fun x y => x = y) 273 268), (268, pz_al 0 269), (269, pz_ic (4) 270), (270, pz_puti 1 3 273), (273, pz_vret)]
theorem SX3_goesOn_3 : pz_Is KX3_goesOn (IX3_goesOn_3) := ⟨pz_s_puti (q0 := (RX3, TX3, 8)) (by decide +kernel) rfl (by decide) wf_X3_26 rfl (by decide +kernel), pz_s_iload_n (a := 1) (by decide +kernel) rfl, pz_s_if_eq (off := 32) (by decide +kernel) (by decide), pz_s_aload_n (a := 0) (by decide +kernel) rfl, pz_s_get (q0 := (RX3, TX3, 8)) (by decide +kernel) rfl (by decide) wf_X3_29, pz_s_iload_n (a := 2) (by decide +kernel) rfl, pz_s_icmp_ne (off := 24) (by decide +kernel) (by decide), pz_s_aload_n (a := 0) (by decide +kernel) rfl, pz_s_get (q0 := (RX3, TX3, 8)) (by decide +kernel) rfl (by decide) wf_X3_26, pz_s_iconst (a := 1) (by decide +kernel) (by decide), pz_s_icmp_eq (off := 11) (by decide +kernel) (by decide), pz_s_aload_n (a := 0) (by decide +kernel) rfl, pz_s_get (q0 := (RX3, TX3, 8)) (by decide +kernel) rfl (by decide) wf_X3_26, pz_s_iconst (a := 2) (by decide +kernel) (by decide), pz_s_icmp_ne (off := 8) (by decide +kernel) (by decide), pz_s_aload_n (a := 0) (by decide +kernel) rfl, pz_s_iconst (a := 4) (by decide +kernel) (by decide), pz_s_puti (q0 := (RX3, TX3, 8)) (by decide +kernel) rfl (by decide) wf_X3_26 rfl (by decide +kernel), pz_s_vreturn (by decide +kernel) rfl, trivial⟩
def IX3_goesOn : List (Nat × pz_I) := IX3_goesOn_0 ++ (IX3_goesOn_1 ++ (IX3_goesOn_2 ++ (IX3_goesOn_3)))
theorem SX3_goesOn : pz_Is KX3_goesOn (IX3_goesOn) := pz_Is_app (SX3_goesOn_0) (pz_Is_app (SX3_goesOn_1) (pz_Is_app (SX3_goesOn_2) (SX3_goesOn_3)))
def IX3_isLetter : List (Nat × pz_I) := [(0, pz_al 0 1), (1, pz_get 1 2 4), (4, pz_il 1 5), (5, pz_bald 6), (6, pz_ic (97) 8), (8, pz_ic (122) 10), (10, pz_cs yX9_within KX9_within 3 13), (13, pz_zret)]
theorem SX3_isLetter : pz_Is KX3_isLetter (IX3_isLetter) := ⟨pz_s_aload_n (a := 0) (by decide +kernel) rfl, pz_s_get (q0 := (RX3, TX3, 8)) (by decide +kernel) rfl (by decide) wf_X3_18, pz_s_iload_n (a := 1) (by decide +kernel) rfl, pz_s_bald (by decide +kernel), pz_s_bipush (a := 97) (by decide +kernel) (by decide), pz_s_bipush (a := 122) (by decide +kernel) (by decide), pz_s_csN (by decide +kernel) ok_X3_63 (by decide) ⟨rfl, rfl⟩, pz_s_zreturn (by decide +kernel) rfl, trivial⟩
def IX3_isDigit : List (Nat × pz_I) := [(0, pz_al 0 1), (1, pz_get 1 2 4), (4, pz_il 1 5), (5, pz_bald 6), (6, pz_ic (48) 8), (8, pz_ic (57) 10), (10, pz_cs yX9_within KX9_within 3 13), (13, pz_zret)]
theorem SX3_isDigit : pz_Is KX3_isDigit (IX3_isDigit) := ⟨pz_s_aload_n (a := 0) (by decide +kernel) rfl, pz_s_get (q0 := (RX3, TX3, 8)) (by decide +kernel) rfl (by decide) wf_X3_18, pz_s_iload_n (a := 1) (by decide +kernel) rfl, pz_s_bald (by decide +kernel), pz_s_bipush (a := 48) (by decide +kernel) (by decide), pz_s_bipush (a := 57) (by decide +kernel) (by decide), pz_s_csN (by decide +kernel) ok_X3_63 (by decide) ⟨rfl, rfl⟩, pz_s_zreturn (by decide +kernel) rfl, trivial⟩
def IX3_keyHere : List (Nat × pz_I) := [(0, pz_al 0 1), (1, pz_ldS 0 3), (3, pz_cv0 yX3_isWord KX3_isWord 1 2 6), (6, pz_if0 (fun x => x = 0) (fun x => ¬ x = 0) 11 9), (9, pz_ic (0) 10), (10, pz_ret), (11, pz_al 0 12), (12, pz_ldS 1 14), (14, pz_cv0 yX3_isWord KX3_isWord 1 2 17), (17, pz_if0 (fun x => x = 0) (fun x => ¬ x = 0) 22 20), (20, pz_ic (1) 21), (21, pz_ret), (22, pz_al 0 23), (23, pz_ldS 2 25), (25, pz_cv0 yX3_isWord KX3_isWord 1 2 28), (28, pz_if0 (fun x => x = 0) (fun x => ¬ x = 0) 35 31), (31, pz_ic (2) 32), (32, pz_goto 36 35), (35, pz_ic (-1) 36), (36, pz_ret)]
theorem SX3_keyHere : pz_Is KX3_keyHere (IX3_keyHere) := ⟨pz_s_aload_n (a := 0) (by decide +kernel) rfl, pz_s_ldS (ix := 67) (by decide +kernel) (by decide) rfl rfl, pz_s_cv0 (q0 := (RX3, TX3, 8)) (by decide +kernel) ok_X3_69 rfl rfl (by decide) ⟨rfl, rfl⟩, pz_s_if_eq (off := 5) (by decide +kernel) (by decide), pz_s_iconst (a := 0) (by decide +kernel) (by decide), pz_s_ireturn (by decide +kernel) rfl, pz_s_aload_n (a := 0) (by decide +kernel) rfl, pz_s_ldS (ix := 75) (by decide +kernel) (by decide) rfl rfl, pz_s_cv0 (q0 := (RX3, TX3, 8)) (by decide +kernel) ok_X3_69 rfl rfl (by decide) ⟨rfl, rfl⟩, pz_s_if_eq (off := 5) (by decide +kernel) (by decide), pz_s_iconst (a := 1) (by decide +kernel) (by decide), pz_s_ireturn (by decide +kernel) rfl, pz_s_aload_n (a := 0) (by decide +kernel) rfl, pz_s_ldS (ix := 77) (by decide +kernel) (by decide) rfl rfl, pz_s_cv0 (q0 := (RX3, TX3, 8)) (by decide +kernel) ok_X3_69 rfl rfl (by decide) ⟨rfl, rfl⟩, pz_s_if_eq (off := 7) (by decide +kernel) (by decide), pz_s_iconst (a := 2) (by decide +kernel) (by decide), pz_s_goto (off := 4) (by decide +kernel) (by decide), pz_s_iconst (a := -1) (by decide +kernel) (by decide), pz_s_ireturn (by decide +kernel) rfl, trivial⟩
def IX3_isWord : List (Nat × pz_I) := [(0, pz_al 0 1), (1, pz_get 1 3 4), (4, pz_ic (1) 5), (5, pz_if2 (fun x y => ¬ x = y) (fun x y => x = y) 24 8), (8, pz_al 0 9), (9, pz_get 1 5 12), (12, pz_al 0 13), (13, pz_get 1 4 16), (16, pz_bin (fun x y => x - y) 17), (17, pz_al 1 18), (18, pz_cvS yJ0_length_8abf5 KJ0_length_8abf5 1 21), (21, pz_if2 (fun x y => x = y) (fun x y => ¬ x = y) 26 24), (24, pz_ic (0) 25), (25, pz_zret), (26, pz_ic (0) 27), (27, pz_is 2 28), (28, pz_il 2 29), (29, pz_al 1 30), (30, pz_cvS yJ0_length_8abf5 KJ0_length_8abf5 1 33), (33, pz_if2 (fun x y => y ≤ x) (fun x y => ¬ y ≤ x) 63 36), (36, pz_al 0 37), (37, pz_get 1 2 40), (40, pz_al 0 41), (41, pz_get 1 4 44), (44, pz_il 2 45), (45, pz_bin (fun x y => x + y) 46), (46, pz_bald 47), (47, pz_al 1 48), (48, pz_il 2 49), (49, pz_cvS yJ0_charAt_5068e KJ0_charAt_5068e 2 52), (52, pz_if2 (fun x y => x = y) (fun x y => ¬ x = y) 57 55), (55, pz_ic (0) 56), (56, pz_zret), (57, pz_inc 2 (1) 60), (60, pz_goto 28 63), (63, pz_ic (1) 64), (64, pz_zret)]
theorem SX3_isWord : pz_Is KX3_isWord (IX3_isWord) := ⟨pz_s_aload_n (a := 0) (by decide +kernel) rfl, pz_s_get (q0 := (RX3, TX3, 8)) (by decide +kernel) rfl (by decide) wf_X3_26, pz_s_iconst (a := 1) (by decide +kernel) (by decide), pz_s_icmp_ne (off := 19) (by decide +kernel) (by decide), pz_s_aload_n (a := 0) (by decide +kernel) rfl, pz_s_get (q0 := (RX3, TX3, 8)) (by decide +kernel) rfl (by decide) wf_X3_32, pz_s_aload_n (a := 0) (by decide +kernel) rfl, pz_s_get (q0 := (RX3, TX3, 8)) (by decide +kernel) rfl (by decide) wf_X3_29, pz_s_isub (by decide +kernel), pz_s_aload_n (a := 1) (by decide +kernel) rfl, pz_s_cvS (by decide +kernel) ok_X3_79 rfl (by decide) ⟨rfl, rfl⟩, pz_s_icmp_eq (off := 5) (by decide +kernel) (by decide), pz_s_iconst (a := 0) (by decide +kernel) (by decide), pz_s_zreturn (by decide +kernel) rfl, pz_s_iconst (a := 0) (by decide +kernel) (by decide), pz_s_istore_n (a := 2) (by decide +kernel) rfl, pz_s_iload_n (a := 2) (by decide +kernel) rfl, pz_s_aload_n (a := 1) (by decide +kernel) rfl, pz_s_cvS (by decide +kernel) ok_X3_79 rfl (by decide) ⟨rfl, rfl⟩, pz_s_icmp_ge (off := 30) (by decide +kernel) (by decide), pz_s_aload_n (a := 0) (by decide +kernel) rfl, pz_s_get (q0 := (RX3, TX3, 8)) (by decide +kernel) rfl (by decide) wf_X3_18, pz_s_aload_n (a := 0) (by decide +kernel) rfl, pz_s_get (q0 := (RX3, TX3, 8)) (by decide +kernel) rfl (by decide) wf_X3_29, pz_s_iload_n (a := 2) (by decide +kernel) rfl, pz_s_iadd (by decide +kernel), pz_s_bald (by decide +kernel), pz_s_aload_n (a := 1) (by decide +kernel) rfl, pz_s_iload_n (a := 2) (by decide +kernel) rfl, pz_s_cvS (by decide +kernel) ok_X3_83 rfl (by decide) ⟨rfl, rfl⟩, pz_s_icmp_eq (off := 5) (by decide +kernel) (by decide), pz_s_iconst (a := 0) (by decide +kernel) (by decide), pz_s_zreturn (by decide +kernel) rfl, pz_s_iinc (a := 1) (by decide +kernel) (by decide), pz_s_goto (off := -32) (by decide +kernel) (by decide), pz_s_iconst (a := 1) (by decide +kernel) (by decide), pz_s_zreturn (by decide +kernel) rfl, trivial⟩
def IX3_nameHere : List (Nat × pz_I) := [(0, pz_al 0 1), (1, pz_get 1 3 4), (4, pz_ic (1) 5), (5, pz_if2 (fun x y => ¬ x = y) (fun x y => x = y) 21 8), (8, pz_al 0 9), (9, pz_get 1 5 12), (12, pz_al 0 13), (13, pz_get 1 4 16), (16, pz_bin (fun x y => x - y) 17), (17, pz_ic (1) 18), (18, pz_if2 (fun x y => x = y) (fun x y => ¬ x = y) 23 21), (21, pz_ic (-1) 22), (22, pz_ret), (23, pz_al 0 24), (24, pz_get 1 0 27), (27, pz_get 4 2 30), (30, pz_if0 (fun x => ¬ x = 0) (fun x => x = 0) 38 33), (33, pz_ldS 3 35), (35, pz_goto 56 38), (38, pz_al 0 39), (39, pz_get 1 0 42), (42, pz_get 4 2 45), (45, pz_ic (1) 46), (46, pz_if2 (fun x y => ¬ x = y) (fun x y => x = y) 54 49), (49, pz_ldS 4 51), (51, pz_goto 56 54), (54, pz_ldS 5 56), (56, pz_as 1 57), (57, pz_al 1 58), (58, pz_al 0 59), (59, pz_get 1 2 62), (62, pz_al 0 63), (63, pz_get 1 4 66), (66, pz_bald 67), (67, pz_un (fun x => (x.toUInt32 % 65536).toInt32) 68), (68, pz_cvS yJ0_indexOf_0f7a4 KJ0_indexOf_0f7a4 2 71), (71, pz_ret)]
theorem SX3_nameHere : pz_Is KX3_nameHere (IX3_nameHere) := ⟨pz_s_aload_n (a := 0) (by decide +kernel) rfl, pz_s_get (q0 := (RX3, TX3, 8)) (by decide +kernel) rfl (by decide) wf_X3_26, pz_s_iconst (a := 1) (by decide +kernel) (by decide), pz_s_icmp_ne (off := 16) (by decide +kernel) (by decide), pz_s_aload_n (a := 0) (by decide +kernel) rfl, pz_s_get (q0 := (RX3, TX3, 8)) (by decide +kernel) rfl (by decide) wf_X3_32, pz_s_aload_n (a := 0) (by decide +kernel) rfl, pz_s_get (q0 := (RX3, TX3, 8)) (by decide +kernel) rfl (by decide) wf_X3_29, pz_s_isub (by decide +kernel), pz_s_iconst (a := 1) (by decide +kernel) (by decide), pz_s_icmp_eq (off := 5) (by decide +kernel) (by decide), pz_s_iconst (a := -1) (by decide +kernel) (by decide), pz_s_ireturn (by decide +kernel) rfl, pz_s_aload_n (a := 0) (by decide +kernel) rfl, pz_s_get (q0 := (RX3, TX3, 8)) (by decide +kernel) rfl (by decide) wf_X3_12, pz_s_get (q0 := (RX6, TX6, 4)) (by decide +kernel) rfl (by decide) wf_X3_87, pz_s_if_ne (off := 8) (by decide +kernel) (by decide), pz_s_ldS (ix := 90) (by decide +kernel) (by decide) rfl rfl, pz_s_goto (off := 21) (by decide +kernel) (by decide), pz_s_aload_n (a := 0) (by decide +kernel) rfl, pz_s_get (q0 := (RX3, TX3, 8)) (by decide +kernel) rfl (by decide) wf_X3_12, pz_s_get (q0 := (RX6, TX6, 4)) (by decide +kernel) rfl (by decide) wf_X3_87, pz_s_iconst (a := 1) (by decide +kernel) (by decide), pz_s_icmp_ne (off := 8) (by decide +kernel) (by decide), pz_s_ldS (ix := 92) (by decide +kernel) (by decide) rfl rfl, pz_s_goto (off := 5) (by decide +kernel) (by decide), pz_s_ldS (ix := 94) (by decide +kernel) (by decide) rfl rfl, pz_s_astore_n (a := 1) (by decide +kernel) rfl, pz_s_aload_n (a := 1) (by decide +kernel) rfl, pz_s_aload_n (a := 0) (by decide +kernel) rfl, pz_s_get (q0 := (RX3, TX3, 8)) (by decide +kernel) rfl (by decide) wf_X3_18, pz_s_aload_n (a := 0) (by decide +kernel) rfl, pz_s_get (q0 := (RX3, TX3, 8)) (by decide +kernel) rfl (by decide) wf_X3_29, pz_s_bald (by decide +kernel), pz_s_i2c (by decide +kernel), pz_s_cvS (by decide +kernel) ok_X3_96 rfl (by decide) ⟨rfl, rfl⟩, pz_s_ireturn (by decide +kernel) rfl, trivial⟩
def IX3_isSign : List (Nat × pz_I) := [(0, pz_al 0 1), (1, pz_get 1 3 4), (4, pz_ic (3) 5), (5, pz_if2 (fun x y => ¬ x = y) (fun x y => x = y) 25 8), (8, pz_al 0 9), (9, pz_get 1 2 12), (12, pz_al 0 13), (13, pz_get 1 4 16), (16, pz_bald 17), (17, pz_il 1 18), (18, pz_if2 (fun x y => ¬ x = y) (fun x y => x = y) 25 21), (21, pz_ic (1) 22), (22, pz_goto 26 25), (25, pz_ic (0) 26), (26, pz_zret)]
theorem SX3_isSign : pz_Is KX3_isSign (IX3_isSign) := ⟨pz_s_aload_n (a := 0) (by decide +kernel) rfl, pz_s_get (q0 := (RX3, TX3, 8)) (by decide +kernel) rfl (by decide) wf_X3_26, pz_s_iconst (a := 3) (by decide +kernel) (by decide), pz_s_icmp_ne (off := 20) (by decide +kernel) (by decide), pz_s_aload_n (a := 0) (by decide +kernel) rfl, pz_s_get (q0 := (RX3, TX3, 8)) (by decide +kernel) rfl (by decide) wf_X3_18, pz_s_aload_n (a := 0) (by decide +kernel) rfl, pz_s_get (q0 := (RX3, TX3, 8)) (by decide +kernel) rfl (by decide) wf_X3_29, pz_s_bald (by decide +kernel), pz_s_iload_n (a := 1) (by decide +kernel) rfl, pz_s_icmp_ne (off := 7) (by decide +kernel) (by decide), pz_s_iconst (a := 1) (by decide +kernel) (by decide), pz_s_goto (off := 4) (by decide +kernel) (by decide), pz_s_iconst (a := 0) (by decide +kernel) (by decide), pz_s_zreturn (by decide +kernel) rfl, trivial⟩
def IX3_readsOr (dr : Nat) : List (Nat × pz_I) := [(0, pz_al 0 1), (1, pz_cv0 yX3_readsAnd (KX3_readsAnd dr) 1 1 4), (4, pz_is 1 5), (5, pz_ic (0) 6), (6, pz_is 2 7), (7, pz_il 2 8), (8, pz_ic (96) 10), (10, pz_if2 (fun x y => y ≤ x) (fun x y => ¬ y ≤ x) 50 13), (13, pz_il 1 14), (14, pz_if0 (fun x => x = 0) (fun x => ¬ x = 0) 50 17), (17, pz_al 0 18), (18, pz_ic (124) 20), (20, pz_cv0 yX3_isSign KX3_isSign 1 2 23), (23, pz_if0 (fun x => x = 0) (fun x => ¬ x = 0) 50 26), (26, pz_al 0 27), (27, pz_cv0 yX3_goesOn KX3_goesOn 1 1 30), (30, pz_al 0 31), (31, pz_cv0 yX3_readsAnd (KX3_readsAnd dr) 1 1 34), (34, pz_is 1 35), (35, pz_al 0 36), (36, pz_get 1 0 39), (39, pz_ic (-124) 41), (41, pz_cv0 yX6_adds KX6_adds 4 2 44), (44, pz_inc 2 (1) 47), (47, pz_goto 7 50), (50, pz_il 1 51), (51, pz_zret)]
theorem SX3_readsOr (dr : Nat) : pz_Is (KX3_readsOr (dr + 1)) (IX3_readsOr dr) := ⟨pz_s_aload_n (a := 0) (by change decode cX3_readsOr _ = _; decide +kernel) rfl, pz_s_cv0 (q0 := (RX3, TX3, 8)) (by change decode cX3_readsOr _ = _; decide +kernel) ok_X3_100 rfl rfl (by show dr + 12 + 1 ≤ dr + 1 + 12; omega) ⟨rfl, rfl⟩, pz_s_istore_n (a := 1) (by change decode cX3_readsOr _ = _; decide +kernel) rfl, pz_s_iconst (a := 0) (by change decode cX3_readsOr _ = _; decide +kernel) (by decide), pz_s_istore_n (a := 2) (by change decode cX3_readsOr _ = _; decide +kernel) rfl, pz_s_iload_n (a := 2) (by change decode cX3_readsOr _ = _; decide +kernel) rfl, pz_s_bipush (a := 96) (by change decode cX3_readsOr _ = _; decide +kernel) (by decide), pz_s_icmp_ge (off := 40) (by change decode cX3_readsOr _ = _; decide +kernel) (by decide), pz_s_iload_n (a := 1) (by change decode cX3_readsOr _ = _; decide +kernel) rfl, pz_s_if_eq (off := 36) (by change decode cX3_readsOr _ = _; decide +kernel) (by decide), pz_s_aload_n (a := 0) (by change decode cX3_readsOr _ = _; decide +kernel) rfl, pz_s_bipush (a := 124) (by change decode cX3_readsOr _ = _; decide +kernel) (by decide), pz_s_cv0 (q0 := (RX3, TX3, 8)) (by change decode cX3_readsOr _ = _; decide +kernel) ok_X3_103 rfl rfl (by show 0 + 1 ≤ dr + 1 + 12; omega) ⟨rfl, rfl⟩, pz_s_if_eq (off := 27) (by change decode cX3_readsOr _ = _; decide +kernel) (by decide), pz_s_aload_n (a := 0) (by change decode cX3_readsOr _ = _; decide +kernel) rfl, pz_s_cv0 (q0 := (RX3, TX3, 8)) (by change decode cX3_readsOr _ = _; decide +kernel) ok_X3_41 rfl rfl (by show 2 + 1 ≤ dr + 1 + 12; omega) ⟨rfl, rfl⟩, pz_s_aload_n (a := 0) (by change decode cX3_readsOr _ = _; decide +kernel) rfl, pz_s_cv0 (q0 := (RX3, TX3, 8)) (by change decode cX3_readsOr _ = _; decide +kernel) ok_X3_100 rfl rfl (by show dr + 12 + 1 ≤ dr + 1 + 12; omega) ⟨rfl, rfl⟩, pz_s_istore_n (a := 1) (by change decode cX3_readsOr _ = _; decide +kernel) rfl, pz_s_aload_n (a := 0) (by change decode cX3_readsOr _ = _; decide +kernel) rfl, pz_s_get (q0 := (RX3, TX3, 8)) (by change decode cX3_readsOr _ = _; decide +kernel) rfl (by decide) wf_X3_12, pz_s_bipush (a := -124) (by change decode cX3_readsOr _ = _; decide +kernel) (by decide), pz_s_cv0 (q0 := (RX6, TX6, 4)) (by change decode cX3_readsOr _ = _; decide +kernel) ok_X3_107 rfl rfl (by show 0 + 1 ≤ dr + 1 + 12; omega) ⟨rfl, rfl⟩, pz_s_iinc (a := 1) (by change decode cX3_readsOr _ = _; decide +kernel) (by decide), pz_s_goto (off := -40) (by change decode cX3_readsOr _ = _; decide +kernel) (by decide), pz_s_iload_n (a := 1) (by change decode cX3_readsOr _ = _; decide +kernel) rfl, pz_s_zreturn (by change decode cX3_readsOr _ = _; decide +kernel) rfl, trivial⟩
def IX3_readsAnd (dr : Nat) : List (Nat × pz_I) := [(0, pz_al 0 1), (1, pz_cv0 yX3_readsTest (KX3_readsTest dr) 1 1 4), (4, pz_is 1 5), (5, pz_ic (0) 6), (6, pz_is 2 7), (7, pz_il 2 8), (8, pz_ic (96) 10), (10, pz_if2 (fun x y => y ≤ x) (fun x y => ¬ y ≤ x) 50 13), (13, pz_il 1 14), (14, pz_if0 (fun x => x = 0) (fun x => ¬ x = 0) 50 17), (17, pz_al 0 18), (18, pz_ic (38) 20), (20, pz_cv0 yX3_isSign KX3_isSign 1 2 23), (23, pz_if0 (fun x => x = 0) (fun x => ¬ x = 0) 50 26), (26, pz_al 0 27), (27, pz_cv0 yX3_goesOn KX3_goesOn 1 1 30), (30, pz_al 0 31), (31, pz_cv0 yX3_readsTest (KX3_readsTest dr) 1 1 34), (34, pz_is 1 35), (35, pz_al 0 36), (36, pz_get 1 0 39), (39, pz_ic (-38) 41), (41, pz_cv0 yX6_adds KX6_adds 4 2 44), (44, pz_inc 2 (1) 47), (47, pz_goto 7 50), (50, pz_il 1 51), (51, pz_zret)]
theorem SX3_readsAnd (dr : Nat) : pz_Is (KX3_readsAnd (dr + 1)) (IX3_readsAnd dr) := ⟨pz_s_aload_n (a := 0) (by change decode cX3_readsAnd _ = _; decide +kernel) rfl, pz_s_cv0 (q0 := (RX3, TX3, 8)) (by change decode cX3_readsAnd _ = _; decide +kernel) ok_X3_110 rfl rfl (by show dr + 12 + 1 ≤ dr + 1 + 12; omega) ⟨rfl, rfl⟩, pz_s_istore_n (a := 1) (by change decode cX3_readsAnd _ = _; decide +kernel) rfl, pz_s_iconst (a := 0) (by change decode cX3_readsAnd _ = _; decide +kernel) (by decide), pz_s_istore_n (a := 2) (by change decode cX3_readsAnd _ = _; decide +kernel) rfl, pz_s_iload_n (a := 2) (by change decode cX3_readsAnd _ = _; decide +kernel) rfl, pz_s_bipush (a := 96) (by change decode cX3_readsAnd _ = _; decide +kernel) (by decide), pz_s_icmp_ge (off := 40) (by change decode cX3_readsAnd _ = _; decide +kernel) (by decide), pz_s_iload_n (a := 1) (by change decode cX3_readsAnd _ = _; decide +kernel) rfl, pz_s_if_eq (off := 36) (by change decode cX3_readsAnd _ = _; decide +kernel) (by decide), pz_s_aload_n (a := 0) (by change decode cX3_readsAnd _ = _; decide +kernel) rfl, pz_s_bipush (a := 38) (by change decode cX3_readsAnd _ = _; decide +kernel) (by decide), pz_s_cv0 (q0 := (RX3, TX3, 8)) (by change decode cX3_readsAnd _ = _; decide +kernel) ok_X3_103 rfl rfl (by show 0 + 1 ≤ dr + 1 + 12; omega) ⟨rfl, rfl⟩, pz_s_if_eq (off := 27) (by change decode cX3_readsAnd _ = _; decide +kernel) (by decide), pz_s_aload_n (a := 0) (by change decode cX3_readsAnd _ = _; decide +kernel) rfl, pz_s_cv0 (q0 := (RX3, TX3, 8)) (by change decode cX3_readsAnd _ = _; decide +kernel) ok_X3_41 rfl rfl (by show 2 + 1 ≤ dr + 1 + 12; omega) ⟨rfl, rfl⟩, pz_s_aload_n (a := 0) (by change decode cX3_readsAnd _ = _; decide +kernel) rfl, pz_s_cv0 (q0 := (RX3, TX3, 8)) (by change decode cX3_readsAnd _ = _; decide +kernel) ok_X3_110 rfl rfl (by show dr + 12 + 1 ≤ dr + 1 + 12; omega) ⟨rfl, rfl⟩, pz_s_istore_n (a := 1) (by change decode cX3_readsAnd _ = _; decide +kernel) rfl, pz_s_aload_n (a := 0) (by change decode cX3_readsAnd _ = _; decide +kernel) rfl, pz_s_get (q0 := (RX3, TX3, 8)) (by change decode cX3_readsAnd _ = _; decide +kernel) rfl (by decide) wf_X3_12, pz_s_bipush (a := -38) (by change decode cX3_readsAnd _ = _; decide +kernel) (by decide), pz_s_cv0 (q0 := (RX6, TX6, 4)) (by change decode cX3_readsAnd _ = _; decide +kernel) ok_X3_107 rfl rfl (by show 0 + 1 ≤ dr + 1 + 12; omega) ⟨rfl, rfl⟩, pz_s_iinc (a := 1) (by change decode cX3_readsAnd _ = _; decide +kernel) (by decide), pz_s_goto (off := -40) (by change decode cX3_readsAnd _ = _; decide +kernel) (by decide), pz_s_iload_n (a := 1) (by change decode cX3_readsAnd _ = _; decide +kernel) rfl, pz_s_zreturn (by change decode cX3_readsAnd _ = _; decide +kernel) rfl, trivial⟩
def IX3_readsTest (dr : Nat) : List (Nat × pz_I) := [(0, pz_al 0 1), (1, pz_cv0 yX3_readsSum (KX3_readsSum dr) 1 1 4), (4, pz_is 1 5), (5, pz_il 1 6), (6, pz_if0 (fun x => x = 0) (fun x => ¬ x = 0) 64 9), (9, pz_al 0 10), (10, pz_ic (60) 12), (12, pz_cv0 yX3_isSign KX3_isSign 1 2 15), (15, pz_if0 (fun x => ¬ x = 0) (fun x => x = 0) 36 18), (18, pz_al 0 19), (19, pz_ic (61) 21), (21, pz_cv0 yX3_isSign KX3_isSign 1 2 24), (24, pz_if0 (fun x => ¬ x = 0) (fun x => x = 0) 36 27), (27, pz_al 0 28), (28, pz_ic (62) 30), (30, pz_cv0 yX3_isSign KX3_isSign 1 2 33), (33, pz_if0 (fun x => x = 0) (fun x => ¬ x = 0) 64 36), (36, pz_al 0 37), (37, pz_get 1 2 40), (40, pz_al 0 41), (41, pz_get 1 4 44), (44, pz_bald 45), (45, pz_is 2 46), (46, pz_al 0 47), (47, pz_cv0 yX3_goesOn KX3_goesOn 1 1 50), (50, pz_al 0 51), (51, pz_cv0 yX3_readsSum (KX3_readsSum dr) 1 1 54), (54, pz_is 1 55), (55, pz_al 0 56), (56, pz_get 1 0 59), (59, pz_il 2 60), (60, pz_un (fun x => -x) 61), (61, pz_cv0 yX6_adds KX6_adds 4 2 64), (64, pz_il 1 65), (65, pz_zret)]
theorem SX3_readsTest (dr : Nat) : pz_Is (KX3_readsTest (dr + 1)) (IX3_readsTest dr) := ⟨pz_s_aload_n (a := 0) (by change decode cX3_readsTest _ = _; decide +kernel) rfl, pz_s_cv0 (q0 := (RX3, TX3, 8)) (by change decode cX3_readsTest _ = _; decide +kernel) ok_X3_113 rfl rfl (by show dr + 12 + 1 ≤ dr + 1 + 12; omega) ⟨rfl, rfl⟩, pz_s_istore_n (a := 1) (by change decode cX3_readsTest _ = _; decide +kernel) rfl, pz_s_iload_n (a := 1) (by change decode cX3_readsTest _ = _; decide +kernel) rfl, pz_s_if_eq (off := 58) (by change decode cX3_readsTest _ = _; decide +kernel) (by decide), pz_s_aload_n (a := 0) (by change decode cX3_readsTest _ = _; decide +kernel) rfl, pz_s_bipush (a := 60) (by change decode cX3_readsTest _ = _; decide +kernel) (by decide), pz_s_cv0 (q0 := (RX3, TX3, 8)) (by change decode cX3_readsTest _ = _; decide +kernel) ok_X3_103 rfl rfl (by show 0 + 1 ≤ dr + 1 + 12; omega) ⟨rfl, rfl⟩, pz_s_if_ne (off := 21) (by change decode cX3_readsTest _ = _; decide +kernel) (by decide), pz_s_aload_n (a := 0) (by change decode cX3_readsTest _ = _; decide +kernel) rfl, pz_s_bipush (a := 61) (by change decode cX3_readsTest _ = _; decide +kernel) (by decide), pz_s_cv0 (q0 := (RX3, TX3, 8)) (by change decode cX3_readsTest _ = _; decide +kernel) ok_X3_103 rfl rfl (by show 0 + 1 ≤ dr + 1 + 12; omega) ⟨rfl, rfl⟩, pz_s_if_ne (off := 12) (by change decode cX3_readsTest _ = _; decide +kernel) (by decide), pz_s_aload_n (a := 0) (by change decode cX3_readsTest _ = _; decide +kernel) rfl, pz_s_bipush (a := 62) (by change decode cX3_readsTest _ = _; decide +kernel) (by decide), pz_s_cv0 (q0 := (RX3, TX3, 8)) (by change decode cX3_readsTest _ = _; decide +kernel) ok_X3_103 rfl rfl (by show 0 + 1 ≤ dr + 1 + 12; omega) ⟨rfl, rfl⟩, pz_s_if_eq (off := 31) (by change decode cX3_readsTest _ = _; decide +kernel) (by decide), pz_s_aload_n (a := 0) (by change decode cX3_readsTest _ = _; decide +kernel) rfl, pz_s_get (q0 := (RX3, TX3, 8)) (by change decode cX3_readsTest _ = _; decide +kernel) rfl (by decide) wf_X3_18, pz_s_aload_n (a := 0) (by change decode cX3_readsTest _ = _; decide +kernel) rfl, pz_s_get (q0 := (RX3, TX3, 8)) (by change decode cX3_readsTest _ = _; decide +kernel) rfl (by decide) wf_X3_29, pz_s_bald (by change decode cX3_readsTest _ = _; decide +kernel), pz_s_istore_n (a := 2) (by change decode cX3_readsTest _ = _; decide +kernel) rfl, pz_s_aload_n (a := 0) (by change decode cX3_readsTest _ = _; decide +kernel) rfl, pz_s_cv0 (q0 := (RX3, TX3, 8)) (by change decode cX3_readsTest _ = _; decide +kernel) ok_X3_41 rfl rfl (by show 2 + 1 ≤ dr + 1 + 12; omega) ⟨rfl, rfl⟩, pz_s_aload_n (a := 0) (by change decode cX3_readsTest _ = _; decide +kernel) rfl, pz_s_cv0 (q0 := (RX3, TX3, 8)) (by change decode cX3_readsTest _ = _; decide +kernel) ok_X3_113 rfl rfl (by show dr + 12 + 1 ≤ dr + 1 + 12; omega) ⟨rfl, rfl⟩, pz_s_istore_n (a := 1) (by change decode cX3_readsTest _ = _; decide +kernel) rfl, pz_s_aload_n (a := 0) (by change decode cX3_readsTest _ = _; decide +kernel) rfl, pz_s_get (q0 := (RX3, TX3, 8)) (by change decode cX3_readsTest _ = _; decide +kernel) rfl (by decide) wf_X3_12, pz_s_iload_n (a := 2) (by change decode cX3_readsTest _ = _; decide +kernel) rfl, pz_s_ineg (by change decode cX3_readsTest _ = _; decide +kernel), pz_s_cv0 (q0 := (RX6, TX6, 4)) (by change decode cX3_readsTest _ = _; decide +kernel) ok_X3_107 rfl rfl (by show 0 + 1 ≤ dr + 1 + 12; omega) ⟨rfl, rfl⟩, pz_s_iload_n (a := 1) (by change decode cX3_readsTest _ = _; decide +kernel) rfl, pz_s_zreturn (by change decode cX3_readsTest _ = _; decide +kernel) rfl, trivial⟩
def IX3_readsSum (dr : Nat) : List (Nat × pz_I) := [(0, pz_al 0 1), (1, pz_cv0 yX3_readsTerm (KX3_readsTerm dr) 1 1 4), (4, pz_is 1 5), (5, pz_ic (0) 6), (6, pz_is 2 7), (7, pz_il 2 8), (8, pz_ic (96) 10), (10, pz_if2 (fun x y => y ≤ x) (fun x y => ¬ y ≤ x) 69 13), (13, pz_il 1 14), (14, pz_if0 (fun x => x = 0) (fun x => ¬ x = 0) 69 17), (17, pz_al 0 18), (18, pz_ic (43) 20), (20, pz_cv0 yX3_isSign KX3_isSign 1 2 23), (23, pz_if0 (fun x => ¬ x = 0) (fun x => x = 0) 35 26), (26, pz_al 0 27), (27, pz_ic (45) 29), (29, pz_cv0 yX3_isSign KX3_isSign 1 2 32), (32, pz_if0 (fun x => x = 0) (fun x => ¬ x = 0) 69 35), (35, pz_al 0 36), (36, pz_get 1 2 39), (39, pz_al 0 40), (40, pz_get 1 4 43), (43, pz_bald 44), (44, pz_is 3 45), (45, pz_al 0 46), (46, pz_cv0 yX3_goesOn KX3_goesOn 1 1 49), (49, pz_al 0 50), (50, pz_cv0 yX3_readsTerm (KX3_readsTerm dr) 1 1 53), (53, pz_is 1 54), (54, pz_al 0 55), (55, pz_get 1 0 58), (58, pz_il 3 59), (59, pz_un (fun x => -x) 60), (60, pz_cv0 yX6_adds KX6_adds 4 2 63), (63, pz_inc 2 (1) 66), (66, pz_goto 7 69), (69, pz_il 1 70), (70, pz_zret)]
theorem SX3_readsSum (dr : Nat) : pz_Is (KX3_readsSum (dr + 1)) (IX3_readsSum dr) := ⟨pz_s_aload_n (a := 0) (by change decode cX3_readsSum _ = _; decide +kernel) rfl, pz_s_cv0 (q0 := (RX3, TX3, 8)) (by change decode cX3_readsSum _ = _; decide +kernel) ok_X3_116 rfl rfl (by show dr + 12 + 1 ≤ dr + 1 + 12; omega) ⟨rfl, rfl⟩, pz_s_istore_n (a := 1) (by change decode cX3_readsSum _ = _; decide +kernel) rfl, pz_s_iconst (a := 0) (by change decode cX3_readsSum _ = _; decide +kernel) (by decide), pz_s_istore_n (a := 2) (by change decode cX3_readsSum _ = _; decide +kernel) rfl, pz_s_iload_n (a := 2) (by change decode cX3_readsSum _ = _; decide +kernel) rfl, pz_s_bipush (a := 96) (by change decode cX3_readsSum _ = _; decide +kernel) (by decide), pz_s_icmp_ge (off := 59) (by change decode cX3_readsSum _ = _; decide +kernel) (by decide), pz_s_iload_n (a := 1) (by change decode cX3_readsSum _ = _; decide +kernel) rfl, pz_s_if_eq (off := 55) (by change decode cX3_readsSum _ = _; decide +kernel) (by decide), pz_s_aload_n (a := 0) (by change decode cX3_readsSum _ = _; decide +kernel) rfl, pz_s_bipush (a := 43) (by change decode cX3_readsSum _ = _; decide +kernel) (by decide), pz_s_cv0 (q0 := (RX3, TX3, 8)) (by change decode cX3_readsSum _ = _; decide +kernel) ok_X3_103 rfl rfl (by show 0 + 1 ≤ dr + 1 + 12; omega) ⟨rfl, rfl⟩, pz_s_if_ne (off := 12) (by change decode cX3_readsSum _ = _; decide +kernel) (by decide), pz_s_aload_n (a := 0) (by change decode cX3_readsSum _ = _; decide +kernel) rfl, pz_s_bipush (a := 45) (by change decode cX3_readsSum _ = _; decide +kernel) (by decide), pz_s_cv0 (q0 := (RX3, TX3, 8)) (by change decode cX3_readsSum _ = _; decide +kernel) ok_X3_103 rfl rfl (by show 0 + 1 ≤ dr + 1 + 12; omega) ⟨rfl, rfl⟩, pz_s_if_eq (off := 37) (by change decode cX3_readsSum _ = _; decide +kernel) (by decide), pz_s_aload_n (a := 0) (by change decode cX3_readsSum _ = _; decide +kernel) rfl, pz_s_get (q0 := (RX3, TX3, 8)) (by change decode cX3_readsSum _ = _; decide +kernel) rfl (by decide) wf_X3_18, pz_s_aload_n (a := 0) (by change decode cX3_readsSum _ = _; decide +kernel) rfl, pz_s_get (q0 := (RX3, TX3, 8)) (by change decode cX3_readsSum _ = _; decide +kernel) rfl (by decide) wf_X3_29, pz_s_bald (by change decode cX3_readsSum _ = _; decide +kernel), pz_s_istore_n (a := 3) (by change decode cX3_readsSum _ = _; decide +kernel) rfl, pz_s_aload_n (a := 0) (by change decode cX3_readsSum _ = _; decide +kernel) rfl, pz_s_cv0 (q0 := (RX3, TX3, 8)) (by change decode cX3_readsSum _ = _; decide +kernel) ok_X3_41 rfl rfl (by show 2 + 1 ≤ dr + 1 + 12; omega) ⟨rfl, rfl⟩, pz_s_aload_n (a := 0) (by change decode cX3_readsSum _ = _; decide +kernel) rfl, pz_s_cv0 (q0 := (RX3, TX3, 8)) (by change decode cX3_readsSum _ = _; decide +kernel) ok_X3_116 rfl rfl (by show dr + 12 + 1 ≤ dr + 1 + 12; omega) ⟨rfl, rfl⟩, pz_s_istore_n (a := 1) (by change decode cX3_readsSum _ = _; decide +kernel) rfl, pz_s_aload_n (a := 0) (by change decode cX3_readsSum _ = _; decide +kernel) rfl, pz_s_get (q0 := (RX3, TX3, 8)) (by change decode cX3_readsSum _ = _; decide +kernel) rfl (by decide) wf_X3_12, pz_s_iload_n (a := 3) (by change decode cX3_readsSum _ = _; decide +kernel) rfl, pz_s_ineg (by change decode cX3_readsSum _ = _; decide +kernel), pz_s_cv0 (q0 := (RX6, TX6, 4)) (by change decode cX3_readsSum _ = _; decide +kernel) ok_X3_107 rfl rfl (by show 0 + 1 ≤ dr + 1 + 12; omega) ⟨rfl, rfl⟩, pz_s_iinc (a := 1) (by change decode cX3_readsSum _ = _; decide +kernel) (by decide), pz_s_goto (off := -59) (by change decode cX3_readsSum _ = _; decide +kernel) (by decide), pz_s_iload_n (a := 1) (by change decode cX3_readsSum _ = _; decide +kernel) rfl, pz_s_zreturn (by change decode cX3_readsSum _ = _; decide +kernel) rfl, trivial⟩
def IX3_readsTerm (dr : Nat) : List (Nat × pz_I) := [(0, pz_al 0 1), (1, pz_cv0 yX3_readsPiece (KX3_readsPiece dr) 1 1 4), (4, pz_is 1 5), (5, pz_ic (0) 6), (6, pz_is 2 7), (7, pz_il 2 8), (8, pz_ic (96) 10), (10, pz_if2 (fun x y => y ≤ x) (fun x y => ¬ y ≤ x) 69 13), (13, pz_il 1 14), (14, pz_if0 (fun x => x = 0) (fun x => ¬ x = 0) 69 17), (17, pz_al 0 18), (18, pz_ic (42) 20), (20, pz_cv0 yX3_isSign KX3_isSign 1 2 23), (23, pz_if0 (fun x => ¬ x = 0) (fun x => x = 0) 35 26), (26, pz_al 0 27), (27, pz_ic (47) 29), (29, pz_cv0 yX3_isSign KX3_isSign 1 2 32), (32, pz_if0 (fun x => x = 0) (fun x => ¬ x = 0) 69 35), (35, pz_al 0 36), (36, pz_get 1 2 39), (39, pz_al 0 40), (40, pz_get 1 4 43), (43, pz_bald 44), (44, pz_is 3 45), (45, pz_al 0 46), (46, pz_cv0 yX3_goesOn KX3_goesOn 1 1 49), (49, pz_al 0 50), (50, pz_cv0 yX3_readsPiece (KX3_readsPiece dr) 1 1 53), (53, pz_is 1 54), (54, pz_al 0 55), (55, pz_get 1 0 58), (58, pz_il 3 59), (59, pz_un (fun x => -x) 60), (60, pz_cv0 yX6_adds KX6_adds 4 2 63), (63, pz_inc 2 (1) 66), (66, pz_goto 7 69), (69, pz_il 1 70), (70, pz_zret)]
theorem SX3_readsTerm (dr : Nat) : pz_Is (KX3_readsTerm (dr + 1)) (IX3_readsTerm dr) := ⟨pz_s_aload_n (a := 0) (by change decode cX3_readsTerm _ = _; decide +kernel) rfl, pz_s_cv0 (q0 := (RX3, TX3, 8)) (by change decode cX3_readsTerm _ = _; decide +kernel) ok_X3_119 rfl rfl (by show dr + 12 + 1 ≤ dr + 1 + 12; omega) ⟨rfl, rfl⟩, pz_s_istore_n (a := 1) (by change decode cX3_readsTerm _ = _; decide +kernel) rfl, pz_s_iconst (a := 0) (by change decode cX3_readsTerm _ = _; decide +kernel) (by decide), pz_s_istore_n (a := 2) (by change decode cX3_readsTerm _ = _; decide +kernel) rfl, pz_s_iload_n (a := 2) (by change decode cX3_readsTerm _ = _; decide +kernel) rfl, pz_s_bipush (a := 96) (by change decode cX3_readsTerm _ = _; decide +kernel) (by decide), pz_s_icmp_ge (off := 59) (by change decode cX3_readsTerm _ = _; decide +kernel) (by decide), pz_s_iload_n (a := 1) (by change decode cX3_readsTerm _ = _; decide +kernel) rfl, pz_s_if_eq (off := 55) (by change decode cX3_readsTerm _ = _; decide +kernel) (by decide), pz_s_aload_n (a := 0) (by change decode cX3_readsTerm _ = _; decide +kernel) rfl, pz_s_bipush (a := 42) (by change decode cX3_readsTerm _ = _; decide +kernel) (by decide), pz_s_cv0 (q0 := (RX3, TX3, 8)) (by change decode cX3_readsTerm _ = _; decide +kernel) ok_X3_103 rfl rfl (by show 0 + 1 ≤ dr + 1 + 12; omega) ⟨rfl, rfl⟩, pz_s_if_ne (off := 12) (by change decode cX3_readsTerm _ = _; decide +kernel) (by decide), pz_s_aload_n (a := 0) (by change decode cX3_readsTerm _ = _; decide +kernel) rfl, pz_s_bipush (a := 47) (by change decode cX3_readsTerm _ = _; decide +kernel) (by decide), pz_s_cv0 (q0 := (RX3, TX3, 8)) (by change decode cX3_readsTerm _ = _; decide +kernel) ok_X3_103 rfl rfl (by show 0 + 1 ≤ dr + 1 + 12; omega) ⟨rfl, rfl⟩, pz_s_if_eq (off := 37) (by change decode cX3_readsTerm _ = _; decide +kernel) (by decide), pz_s_aload_n (a := 0) (by change decode cX3_readsTerm _ = _; decide +kernel) rfl, pz_s_get (q0 := (RX3, TX3, 8)) (by change decode cX3_readsTerm _ = _; decide +kernel) rfl (by decide) wf_X3_18, pz_s_aload_n (a := 0) (by change decode cX3_readsTerm _ = _; decide +kernel) rfl, pz_s_get (q0 := (RX3, TX3, 8)) (by change decode cX3_readsTerm _ = _; decide +kernel) rfl (by decide) wf_X3_29, pz_s_bald (by change decode cX3_readsTerm _ = _; decide +kernel), pz_s_istore_n (a := 3) (by change decode cX3_readsTerm _ = _; decide +kernel) rfl, pz_s_aload_n (a := 0) (by change decode cX3_readsTerm _ = _; decide +kernel) rfl, pz_s_cv0 (q0 := (RX3, TX3, 8)) (by change decode cX3_readsTerm _ = _; decide +kernel) ok_X3_41 rfl rfl (by show 2 + 1 ≤ dr + 1 + 12; omega) ⟨rfl, rfl⟩, pz_s_aload_n (a := 0) (by change decode cX3_readsTerm _ = _; decide +kernel) rfl, pz_s_cv0 (q0 := (RX3, TX3, 8)) (by change decode cX3_readsTerm _ = _; decide +kernel) ok_X3_119 rfl rfl (by show dr + 12 + 1 ≤ dr + 1 + 12; omega) ⟨rfl, rfl⟩, pz_s_istore_n (a := 1) (by change decode cX3_readsTerm _ = _; decide +kernel) rfl, pz_s_aload_n (a := 0) (by change decode cX3_readsTerm _ = _; decide +kernel) rfl, pz_s_get (q0 := (RX3, TX3, 8)) (by change decode cX3_readsTerm _ = _; decide +kernel) rfl (by decide) wf_X3_12, pz_s_iload_n (a := 3) (by change decode cX3_readsTerm _ = _; decide +kernel) rfl, pz_s_ineg (by change decode cX3_readsTerm _ = _; decide +kernel), pz_s_cv0 (q0 := (RX6, TX6, 4)) (by change decode cX3_readsTerm _ = _; decide +kernel) ok_X3_107 rfl rfl (by show 0 + 1 ≤ dr + 1 + 12; omega) ⟨rfl, rfl⟩, pz_s_iinc (a := 1) (by change decode cX3_readsTerm _ = _; decide +kernel) (by decide), pz_s_goto (off := -59) (by change decode cX3_readsTerm _ = _; decide +kernel) (by decide), pz_s_iload_n (a := 1) (by change decode cX3_readsTerm _ = _; decide +kernel) rfl, pz_s_zreturn (by change decode cX3_readsTerm _ = _; decide +kernel) rfl, trivial⟩
def IX3_readsPiece_0 (dr : Nat) : List (Nat × pz_I) := [(0, pz_al 0 1), (1, pz_ic (33) 3), (3, pz_cv0 yX3_isSign KX3_isSign 1 2 6), (6, pz_if0 (fun x => x = 0) (fun x => ¬ x = 0) 31 9), (9, pz_al 0 10), (10, pz_get 1 7 13), (13, pz_ic (8) 15), (15, pz_if2 (fun x y => y ≤ x) (fun x y => ¬ y ≤ x) 29 18), (18, pz_al 0 19), (19, pz_cv0 yX3_readsNot (KX3_readsNot dr) 1 1 22), (22, pz_if0 (fun x => x = 0) (fun x => ¬ x = 0) 29 25), (25, pz_ic (1) 26), (26, pz_goto 30 29), (29, pz_ic (0) 30), (30, pz_zret), (31, pz_al 0 32), (32, pz_ic (40) 34), (34, pz_cv0 yX3_isSign KX3_isSign 1 2 37), (37, pz_if0 (fun x => x = 0) (fun x => ¬ x = 0) 62 40), (40, pz_al 0 41), (41, pz_get 1 6 44), (44, pz_ic (8) 46), (46, pz_if2 (fun x y => y ≤ x) (fun x y => ¬ y ≤ x) 60 49), (49, pz_al 0 50), (50, pz_cv0 yX3_readsParen (KX3_readsParen dr) 1 1 53), (53, pz_if0 (fun x => x = 0) (fun x => ¬ x = 0) 60 56), (56, pz_ic (1) 57), (57, pz_goto 61 60), (60, pz_ic (0) 61), (61, pz_zret), (62, pz_al 0 63), (63, pz_cv0 yX3_nameHere KX3_nameHere 1 1 66), (66, pz_is 1 67), (67, pz_al 0 68), (68, pz_get 1 3 71), (71, pz_ic (2) 72), (72, pz_if2 (fun x y => x = y) (fun x y => ¬ x = y) 81 75), (75, pz_il 1 76), (76, pz_if0 (fun x => 0 ≤ x) (fun x => ¬ 0 ≤ x) 81 79), (79, pz_ic (0) 80)]
theorem SX3_readsPiece_0 (dr : Nat) : pz_Is (KX3_readsPiece (dr + 1)) (IX3_readsPiece_0 dr) := ⟨pz_s_aload_n (a := 0) (by change decode cX3_readsPiece _ = _; decide +kernel) rfl, pz_s_bipush (a := 33) (by change decode cX3_readsPiece _ = _; decide +kernel) (by decide), pz_s_cv0 (q0 := (RX3, TX3, 8)) (by change decode cX3_readsPiece _ = _; decide +kernel) ok_X3_103 rfl rfl (by show 0 + 1 ≤ dr + 1 + 12; omega) ⟨rfl, rfl⟩, pz_s_if_eq (off := 25) (by change decode cX3_readsPiece _ = _; decide +kernel) (by decide), pz_s_aload_n (a := 0) (by change decode cX3_readsPiece _ = _; decide +kernel) rfl, pz_s_get (q0 := (RX3, TX3, 8)) (by change decode cX3_readsPiece _ = _; decide +kernel) rfl (by decide) wf_X3_38, pz_s_bipush (a := 8) (by change decode cX3_readsPiece _ = _; decide +kernel) (by decide), pz_s_icmp_ge (off := 14) (by change decode cX3_readsPiece _ = _; decide +kernel) (by decide), pz_s_aload_n (a := 0) (by change decode cX3_readsPiece _ = _; decide +kernel) rfl, pz_s_cv0 (q0 := (RX3, TX3, 8)) (by change decode cX3_readsPiece _ = _; decide +kernel) ok_X3_122 rfl rfl (by show dr + 12 + 1 ≤ dr + 1 + 12; omega) ⟨rfl, rfl⟩, pz_s_if_eq (off := 7) (by change decode cX3_readsPiece _ = _; decide +kernel) (by decide), pz_s_iconst (a := 1) (by change decode cX3_readsPiece _ = _; decide +kernel) (by decide), pz_s_goto (off := 4) (by change decode cX3_readsPiece _ = _; decide +kernel) (by decide), pz_s_iconst (a := 0) (by change decode cX3_readsPiece _ = _; decide +kernel) (by decide), pz_s_zreturn (by change decode cX3_readsPiece _ = _; decide +kernel) rfl, pz_s_aload_n (a := 0) (by change decode cX3_readsPiece _ = _; decide +kernel) rfl, pz_s_bipush (a := 40) (by change decode cX3_readsPiece _ = _; decide +kernel) (by decide), pz_s_cv0 (q0 := (RX3, TX3, 8)) (by change decode cX3_readsPiece _ = _; decide +kernel) ok_X3_103 rfl rfl (by show 0 + 1 ≤ dr + 1 + 12; omega) ⟨rfl, rfl⟩, pz_s_if_eq (off := 25) (by change decode cX3_readsPiece _ = _; decide +kernel) (by decide), pz_s_aload_n (a := 0) (by change decode cX3_readsPiece _ = _; decide +kernel) rfl, pz_s_get (q0 := (RX3, TX3, 8)) (by change decode cX3_readsPiece _ = _; decide +kernel) rfl (by decide) wf_X3_35, pz_s_bipush (a := 8) (by change decode cX3_readsPiece _ = _; decide +kernel) (by decide), pz_s_icmp_ge (off := 14) (by change decode cX3_readsPiece _ = _; decide +kernel) (by decide), pz_s_aload_n (a := 0) (by change decode cX3_readsPiece _ = _; decide +kernel) rfl, pz_s_cv0 (q0 := (RX3, TX3, 8)) (by change decode cX3_readsPiece _ = _; decide +kernel) ok_X3_125 rfl rfl (by show dr + 12 + 1 ≤ dr + 1 + 12; omega) ⟨rfl, rfl⟩, pz_s_if_eq (off := 7) (by change decode cX3_readsPiece _ = _; decide +kernel) (by decide), pz_s_iconst (a := 1) (by change decode cX3_readsPiece _ = _; decide +kernel) (by decide), pz_s_goto (off := 4) (by change decode cX3_readsPiece _ = _; decide +kernel) (by decide), pz_s_iconst (a := 0) (by change decode cX3_readsPiece _ = _; decide +kernel) (by decide), pz_s_zreturn (by change decode cX3_readsPiece _ = _; decide +kernel) rfl, pz_s_aload_n (a := 0) (by change decode cX3_readsPiece _ = _; decide +kernel) rfl, pz_s_cv0 (q0 := (RX3, TX3, 8)) (by change decode cX3_readsPiece _ = _; decide +kernel) ok_X3_128 rfl rfl (by show 4 + 1 ≤ dr + 1 + 12; omega) ⟨rfl, rfl⟩, pz_s_istore_n (a := 1) (by change decode cX3_readsPiece _ = _; decide +kernel) rfl, pz_s_aload_n (a := 0) (by change decode cX3_readsPiece _ = _; decide +kernel) rfl, pz_s_get (q0 := (RX3, TX3, 8)) (by change decode cX3_readsPiece _ = _; decide +kernel) rfl (by decide) wf_X3_26, pz_s_iconst (a := 2) (by change decode cX3_readsPiece _ = _; decide +kernel) (by decide), pz_s_icmp_eq (off := 9) (by change decode cX3_readsPiece _ = _; decide +kernel) (by decide), pz_s_iload_n (a := 1) (by change decode cX3_readsPiece _ = _; decide +kernel) rfl, pz_s_if_ge (off := 5) (by change decode cX3_readsPiece _ = _; decide +kernel) (by decide), pz_s_iconst (a := 0) (by change decode cX3_readsPiece _ = _; decide +kernel) (by decide), trivial⟩
def IX3_readsPiece_1 (dr : Nat) : List (Nat × pz_I) := [(80, pz_zret), (81, pz_al 0 82), (82, pz_get 1 0 85), (85, pz_al 0 86), (86, pz_get 1 3 89), (89, pz_ic (2) 90), (90, pz_if2 (fun x y => ¬ x = y) (fun x y => x = y) 100 93), (93, pz_al 0 94), (94, pz_cv0 yX3_numberHere KX3_numberHere 1 1 97), (97, pz_goto 105 100), (100, pz_ic (10000) 103), (103, pz_il 1 104), (104, pz_bin (fun x y => x + y) 105), (105, pz_cv0 yX6_adds KX6_adds 4 2 108), (108, pz_al 0 109), (109, pz_get 1 0 112), (112, pz_dup 113), (113, pz_get 4 3 116), (116, pz_ic (1) 117), (117, pz_bin (fun x y => x + y) 118), (118, pz_puti 4 3 121), (121, pz_al 0 122), (122, pz_cv0 yX3_goesOn KX3_goesOn 1 1 125), (125, pz_ic (1) 126), (126, pz_zret)]
theorem SX3_readsPiece_1 (dr : Nat) : pz_Is (KX3_readsPiece (dr + 1)) (IX3_readsPiece_1 dr) := ⟨pz_s_zreturn (by change decode cX3_readsPiece _ = _; decide +kernel) rfl, pz_s_aload_n (a := 0) (by change decode cX3_readsPiece _ = _; decide +kernel) rfl, pz_s_get (q0 := (RX3, TX3, 8)) (by change decode cX3_readsPiece _ = _; decide +kernel) rfl (by decide) wf_X3_12, pz_s_aload_n (a := 0) (by change decode cX3_readsPiece _ = _; decide +kernel) rfl, pz_s_get (q0 := (RX3, TX3, 8)) (by change decode cX3_readsPiece _ = _; decide +kernel) rfl (by decide) wf_X3_26, pz_s_iconst (a := 2) (by change decode cX3_readsPiece _ = _; decide +kernel) (by decide), pz_s_icmp_ne (off := 10) (by change decode cX3_readsPiece _ = _; decide +kernel) (by decide), pz_s_aload_n (a := 0) (by change decode cX3_readsPiece _ = _; decide +kernel) rfl, pz_s_cv0 (q0 := (RX3, TX3, 8)) (by change decode cX3_readsPiece _ = _; decide +kernel) ok_X3_131 rfl rfl (by show 0 + 1 ≤ dr + 1 + 12; omega) ⟨rfl, rfl⟩, pz_s_goto (off := 8) (by change decode cX3_readsPiece _ = _; decide +kernel) (by decide), pz_s_sipush (a := 10000) (by change decode cX3_readsPiece _ = _; decide +kernel) (by decide), pz_s_iload_n (a := 1) (by change decode cX3_readsPiece _ = _; decide +kernel) rfl, pz_s_iadd (by change decode cX3_readsPiece _ = _; decide +kernel), pz_s_cv0 (q0 := (RX6, TX6, 4)) (by change decode cX3_readsPiece _ = _; decide +kernel) ok_X3_107 rfl rfl (by show 0 + 1 ≤ dr + 1 + 12; omega) ⟨rfl, rfl⟩, pz_s_aload_n (a := 0) (by change decode cX3_readsPiece _ = _; decide +kernel) rfl, pz_s_get (q0 := (RX3, TX3, 8)) (by change decode cX3_readsPiece _ = _; decide +kernel) rfl (by decide) wf_X3_12, pz_s_dup (by change decode cX3_readsPiece _ = _; decide +kernel), pz_s_get (q0 := (RX6, TX6, 4)) (by change decode cX3_readsPiece _ = _; decide +kernel) rfl (by decide) wf_X3_134, pz_s_iconst (a := 1) (by change decode cX3_readsPiece _ = _; decide +kernel) (by decide), pz_s_iadd (by change decode cX3_readsPiece _ = _; decide +kernel), pz_s_puti (q0 := (RX6, TX6, 4)) (by change decode cX3_readsPiece _ = _; decide +kernel) rfl (by decide) wf_X3_134 rfl (by decide +kernel), pz_s_aload_n (a := 0) (by change decode cX3_readsPiece _ = _; decide +kernel) rfl, pz_s_cv0 (q0 := (RX3, TX3, 8)) (by change decode cX3_readsPiece _ = _; decide +kernel) ok_X3_41 rfl rfl (by show 2 + 1 ≤ dr + 1 + 12; omega) ⟨rfl, rfl⟩, pz_s_iconst (a := 1) (by change decode cX3_readsPiece _ = _; decide +kernel) (by decide), pz_s_zreturn (by change decode cX3_readsPiece _ = _; decide +kernel) rfl, trivial⟩
def IX3_readsPiece (dr : Nat) : List (Nat × pz_I) := IX3_readsPiece_0 dr ++ (IX3_readsPiece_1 dr)
theorem SX3_readsPiece (dr : Nat) : pz_Is (KX3_readsPiece (dr + 1)) (IX3_readsPiece dr) := pz_Is_app (SX3_readsPiece_0 dr) (SX3_readsPiece_1 dr)
def IX3_readsNot (dr : Nat) : List (Nat × pz_I) := [(0, pz_al 0 1), (1, pz_dup 2), (2, pz_get 1 7 5), (5, pz_ic (1) 6), (6, pz_bin (fun x y => x + y) 7), (7, pz_puti 1 7 10), (10, pz_al 0 11), (11, pz_cv0 yX3_goesOn KX3_goesOn 1 1 14), (14, pz_al 0 15), (15, pz_cv0 yX3_readsPiece (KX3_readsPiece dr) 1 1 18), (18, pz_is 1 19), (19, pz_al 0 20), (20, pz_dup 21), (21, pz_get 1 7 24), (24, pz_ic (1) 25), (25, pz_bin (fun x y => x - y) 26), (26, pz_puti 1 7 29), (29, pz_al 0 30), (30, pz_get 1 0 33), (33, pz_ic (-33) 35), (35, pz_cv0 yX6_adds KX6_adds 4 2 38), (38, pz_il 1 39), (39, pz_zret)]
theorem SX3_readsNot (dr : Nat) : pz_Is (KX3_readsNot (dr + 1)) (IX3_readsNot dr) := ⟨pz_s_aload_n (a := 0) (by change decode cX3_readsNot _ = _; decide +kernel) rfl, pz_s_dup (by change decode cX3_readsNot _ = _; decide +kernel), pz_s_get (q0 := (RX3, TX3, 8)) (by change decode cX3_readsNot _ = _; decide +kernel) rfl (by decide) wf_X3_38, pz_s_iconst (a := 1) (by change decode cX3_readsNot _ = _; decide +kernel) (by decide), pz_s_iadd (by change decode cX3_readsNot _ = _; decide +kernel), pz_s_puti (q0 := (RX3, TX3, 8)) (by change decode cX3_readsNot _ = _; decide +kernel) rfl (by decide) wf_X3_38 rfl (by decide +kernel), pz_s_aload_n (a := 0) (by change decode cX3_readsNot _ = _; decide +kernel) rfl, pz_s_cv0 (q0 := (RX3, TX3, 8)) (by change decode cX3_readsNot _ = _; decide +kernel) ok_X3_41 rfl rfl (by show 2 + 1 ≤ dr + 1 + 12; omega) ⟨rfl, rfl⟩, pz_s_aload_n (a := 0) (by change decode cX3_readsNot _ = _; decide +kernel) rfl, pz_s_cv0 (q0 := (RX3, TX3, 8)) (by change decode cX3_readsNot _ = _; decide +kernel) ok_X3_119 rfl rfl (by show dr + 12 + 1 ≤ dr + 1 + 12; omega) ⟨rfl, rfl⟩, pz_s_istore_n (a := 1) (by change decode cX3_readsNot _ = _; decide +kernel) rfl, pz_s_aload_n (a := 0) (by change decode cX3_readsNot _ = _; decide +kernel) rfl, pz_s_dup (by change decode cX3_readsNot _ = _; decide +kernel), pz_s_get (q0 := (RX3, TX3, 8)) (by change decode cX3_readsNot _ = _; decide +kernel) rfl (by decide) wf_X3_38, pz_s_iconst (a := 1) (by change decode cX3_readsNot _ = _; decide +kernel) (by decide), pz_s_isub (by change decode cX3_readsNot _ = _; decide +kernel), pz_s_puti (q0 := (RX3, TX3, 8)) (by change decode cX3_readsNot _ = _; decide +kernel) rfl (by decide) wf_X3_38 rfl (by decide +kernel), pz_s_aload_n (a := 0) (by change decode cX3_readsNot _ = _; decide +kernel) rfl, pz_s_get (q0 := (RX3, TX3, 8)) (by change decode cX3_readsNot _ = _; decide +kernel) rfl (by decide) wf_X3_12, pz_s_bipush (a := -33) (by change decode cX3_readsNot _ = _; decide +kernel) (by decide), pz_s_cv0 (q0 := (RX6, TX6, 4)) (by change decode cX3_readsNot _ = _; decide +kernel) ok_X3_107 rfl rfl (by show 0 + 1 ≤ dr + 1 + 12; omega) ⟨rfl, rfl⟩, pz_s_iload_n (a := 1) (by change decode cX3_readsNot _ = _; decide +kernel) rfl, pz_s_zreturn (by change decode cX3_readsNot _ = _; decide +kernel) rfl, trivial⟩
def IX3_readsParen (dr : Nat) : List (Nat × pz_I) := [(0, pz_al 0 1), (1, pz_dup 2), (2, pz_get 1 6 5), (5, pz_ic (1) 6), (6, pz_bin (fun x y => x + y) 7), (7, pz_puti 1 6 10), (10, pz_al 0 11), (11, pz_cv0 yX3_goesOn KX3_goesOn 1 1 14), (14, pz_al 0 15), (15, pz_cv0 yX3_readsOr (KX3_readsOr dr) 1 1 18), (18, pz_if0 (fun x => x = 0) (fun x => ¬ x = 0) 34 21), (21, pz_al 0 22), (22, pz_ic (41) 24), (24, pz_cv0 yX3_isSign KX3_isSign 1 2 27), (27, pz_if0 (fun x => x = 0) (fun x => ¬ x = 0) 34 30), (30, pz_ic (1) 31), (31, pz_goto 35 34), (34, pz_ic (0) 35), (35, pz_is 1 36), (36, pz_al 0 37), (37, pz_dup 38), (38, pz_get 1 6 41), (41, pz_ic (1) 42), (42, pz_bin (fun x y => x - y) 43), (43, pz_puti 1 6 46), (46, pz_il 1 47), (47, pz_if0 (fun x => x = 0) (fun x => ¬ x = 0) 54 50), (50, pz_al 0 51), (51, pz_cv0 yX3_goesOn KX3_goesOn 1 1 54), (54, pz_il 1 55), (55, pz_zret)]
theorem SX3_readsParen (dr : Nat) : pz_Is (KX3_readsParen (dr + 1)) (IX3_readsParen dr) := ⟨pz_s_aload_n (a := 0) (by change decode cX3_readsParen _ = _; decide +kernel) rfl, pz_s_dup (by change decode cX3_readsParen _ = _; decide +kernel), pz_s_get (q0 := (RX3, TX3, 8)) (by change decode cX3_readsParen _ = _; decide +kernel) rfl (by decide) wf_X3_35, pz_s_iconst (a := 1) (by change decode cX3_readsParen _ = _; decide +kernel) (by decide), pz_s_iadd (by change decode cX3_readsParen _ = _; decide +kernel), pz_s_puti (q0 := (RX3, TX3, 8)) (by change decode cX3_readsParen _ = _; decide +kernel) rfl (by decide) wf_X3_35 rfl (by decide +kernel), pz_s_aload_n (a := 0) (by change decode cX3_readsParen _ = _; decide +kernel) rfl, pz_s_cv0 (q0 := (RX3, TX3, 8)) (by change decode cX3_readsParen _ = _; decide +kernel) ok_X3_41 rfl rfl (by show 2 + 1 ≤ dr + 1 + 12; omega) ⟨rfl, rfl⟩, pz_s_aload_n (a := 0) (by change decode cX3_readsParen _ = _; decide +kernel) rfl, pz_s_cv0 (q0 := (RX3, TX3, 8)) (by change decode cX3_readsParen _ = _; decide +kernel) ok_X3_52 rfl rfl (by show dr + 12 + 1 ≤ dr + 1 + 12; omega) ⟨rfl, rfl⟩, pz_s_if_eq (off := 16) (by change decode cX3_readsParen _ = _; decide +kernel) (by decide), pz_s_aload_n (a := 0) (by change decode cX3_readsParen _ = _; decide +kernel) rfl, pz_s_bipush (a := 41) (by change decode cX3_readsParen _ = _; decide +kernel) (by decide), pz_s_cv0 (q0 := (RX3, TX3, 8)) (by change decode cX3_readsParen _ = _; decide +kernel) ok_X3_103 rfl rfl (by show 0 + 1 ≤ dr + 1 + 12; omega) ⟨rfl, rfl⟩, pz_s_if_eq (off := 7) (by change decode cX3_readsParen _ = _; decide +kernel) (by decide), pz_s_iconst (a := 1) (by change decode cX3_readsParen _ = _; decide +kernel) (by decide), pz_s_goto (off := 4) (by change decode cX3_readsParen _ = _; decide +kernel) (by decide), pz_s_iconst (a := 0) (by change decode cX3_readsParen _ = _; decide +kernel) (by decide), pz_s_istore_n (a := 1) (by change decode cX3_readsParen _ = _; decide +kernel) rfl, pz_s_aload_n (a := 0) (by change decode cX3_readsParen _ = _; decide +kernel) rfl, pz_s_dup (by change decode cX3_readsParen _ = _; decide +kernel), pz_s_get (q0 := (RX3, TX3, 8)) (by change decode cX3_readsParen _ = _; decide +kernel) rfl (by decide) wf_X3_35, pz_s_iconst (a := 1) (by change decode cX3_readsParen _ = _; decide +kernel) (by decide), pz_s_isub (by change decode cX3_readsParen _ = _; decide +kernel), pz_s_puti (q0 := (RX3, TX3, 8)) (by change decode cX3_readsParen _ = _; decide +kernel) rfl (by decide) wf_X3_35 rfl (by decide +kernel), pz_s_iload_n (a := 1) (by change decode cX3_readsParen _ = _; decide +kernel) rfl, pz_s_if_eq (off := 7) (by change decode cX3_readsParen _ = _; decide +kernel) (by decide), pz_s_aload_n (a := 0) (by change decode cX3_readsParen _ = _; decide +kernel) rfl, pz_s_cv0 (q0 := (RX3, TX3, 8)) (by change decode cX3_readsParen _ = _; decide +kernel) ok_X3_41 rfl rfl (by show 2 + 1 ≤ dr + 1 + 12; omega) ⟨rfl, rfl⟩, pz_s_iload_n (a := 1) (by change decode cX3_readsParen _ = _; decide +kernel) rfl, pz_s_zreturn (by change decode cX3_readsParen _ = _; decide +kernel) rfl, trivial⟩
def IX3_numberHere : List (Nat × pz_I) := [(0, pz_ic (0) 1), (1, pz_is 1 2), (2, pz_al 0 3), (3, pz_get 1 4 6), (6, pz_is 2 7), (7, pz_il 2 8), (8, pz_al 0 9), (9, pz_get 1 5 12), (12, pz_if2 (fun x y => y ≤ x) (fun x y => ¬ y ≤ x) 36 15), (15, pz_ic (10) 17), (17, pz_il 1 18), (18, pz_bin (fun x y => x * y) 19), (19, pz_al 0 20), (20, pz_get 1 2 23), (23, pz_il 2 24), (24, pz_bald 25), (25, pz_bin (fun x y => x + y) 26), (26, pz_ic (48) 28), (28, pz_bin (fun x y => x - y) 29), (29, pz_is 1 30), (30, pz_inc 2 (1) 33), (33, pz_goto 7 36), (36, pz_il 1 37), (37, pz_ret)]
theorem SX3_numberHere : pz_Is KX3_numberHere (IX3_numberHere) := ⟨pz_s_iconst (a := 0) (by decide +kernel) (by decide), pz_s_istore_n (a := 1) (by decide +kernel) rfl, pz_s_aload_n (a := 0) (by decide +kernel) rfl, pz_s_get (q0 := (RX3, TX3, 8)) (by decide +kernel) rfl (by decide) wf_X3_29, pz_s_istore_n (a := 2) (by decide +kernel) rfl, pz_s_iload_n (a := 2) (by decide +kernel) rfl, pz_s_aload_n (a := 0) (by decide +kernel) rfl, pz_s_get (q0 := (RX3, TX3, 8)) (by decide +kernel) rfl (by decide) wf_X3_32, pz_s_icmp_ge (off := 24) (by decide +kernel) (by decide), pz_s_bipush (a := 10) (by decide +kernel) (by decide), pz_s_iload_n (a := 1) (by decide +kernel) rfl, pz_s_imul (by decide +kernel), pz_s_aload_n (a := 0) (by decide +kernel) rfl, pz_s_get (q0 := (RX3, TX3, 8)) (by decide +kernel) rfl (by decide) wf_X3_18, pz_s_iload_n (a := 2) (by decide +kernel) rfl, pz_s_bald (by decide +kernel), pz_s_iadd (by decide +kernel), pz_s_bipush (a := 48) (by decide +kernel) (by decide), pz_s_isub (by decide +kernel), pz_s_istore_n (a := 1) (by decide +kernel) rfl, pz_s_iinc (a := 1) (by decide +kernel) (by decide), pz_s_goto (off := -26) (by decide +kernel) (by decide), pz_s_iload_n (a := 1) (by decide +kernel) rfl, pz_s_ireturn (by decide +kernel) rfl, trivial⟩
def IX4_init : List (Nat × pz_I) := [(0, pz_al 0 1), (1, pz_oinit 4), (4, pz_al 0 5), (5, pz_ic (24) 7), (7, pz_newa 1 24 0 24 9), (9, pz_puta 2 0 12), (12, pz_al 0 13), (13, pz_ic (-1) 14), (14, pz_puti 2 1 17), (17, pz_vret)]
theorem SX4_init : pz_Is KX4_init (IX4_init) := ⟨pz_s_aload_n (a := 0) (by decide +kernel) rfl, pz_s_oinit (by decide +kernel) (by decide) wm_X4_3 woi1 woi2, pz_s_aload_n (a := 0) (by decide +kernel) rfl, pz_s_bipush (a := 24) (by decide +kernel) (by decide), pz_s_newi (by decide +kernel) (by decide) wa_int, pz_s_putaFA (t9 := .int) (q0 := (RX4, TX4, 3)) (by decide +kernel) rfl (by decide) wf_X4_9 rfl (by decide +kernel) rfl rfl, pz_s_aload_n (a := 0) (by decide +kernel) rfl, pz_s_iconst (a := -1) (by decide +kernel) (by decide), pz_s_puti (q0 := (RX4, TX4, 3)) (by decide +kernel) rfl (by decide) wf_X4_15 rfl (by decide +kernel), pz_s_vreturn (by decide +kernel) rfl, trivial⟩
def IX4_becomes : List (Nat × pz_I) := [(0, pz_al 0 1), (1, pz_il 1 2), (2, pz_puti 2 1 5), (5, pz_al 0 6), (6, pz_il 2 7), (7, pz_puti 2 2 10), (10, pz_ic (0) 11), (11, pz_is 3 12), (12, pz_il 3 13), (13, pz_ic (24) 15), (15, pz_if2 (fun x y => y ≤ x) (fun x y => ¬ y ≤ x) 31 18), (18, pz_al 0 19), (19, pz_get 2 0 22), (22, pz_il 3 23), (23, pz_ic (0) 24), (24, pz_iast 25), (25, pz_inc 3 (1) 28), (28, pz_goto 12 31), (31, pz_vret)]
theorem SX4_becomes : pz_Is KX4_becomes (IX4_becomes) := ⟨pz_s_aload_n (a := 0) (by decide +kernel) rfl, pz_s_iload_n (a := 1) (by decide +kernel) rfl, pz_s_puti (q0 := (RX4, TX4, 3)) (by decide +kernel) rfl (by decide) wf_X4_15 rfl (by decide +kernel), pz_s_aload_n (a := 0) (by decide +kernel) rfl, pz_s_iload_n (a := 2) (by decide +kernel) rfl, pz_s_puti (q0 := (RX4, TX4, 3)) (by decide +kernel) rfl (by decide) wf_X4_19 rfl (by decide +kernel), pz_s_iconst (a := 0) (by decide +kernel) (by decide), pz_s_istore_n (a := 3) (by decide +kernel) rfl, pz_s_iload_n (a := 3) (by decide +kernel) rfl, pz_s_bipush (a := 24) (by decide +kernel) (by decide), pz_s_icmp_ge (off := 16) (by decide +kernel) (by decide), pz_s_aload_n (a := 0) (by decide +kernel) rfl, pz_s_get (q0 := (RX4, TX4, 3)) (by decide +kernel) rfl (by decide) wf_X4_9, pz_s_iload_n (a := 3) (by decide +kernel) rfl, pz_s_iconst (a := 0) (by decide +kernel) (by decide), pz_s_iast (by decide +kernel), pz_s_iinc (a := 1) (by decide +kernel) (by decide), pz_s_goto (off := -16) (by decide +kernel) (by decide), pz_s_vreturn (by decide +kernel) rfl, trivial⟩
def IX4_becomes_ : List (Nat × pz_I) := [(0, pz_al 0 1), (1, pz_al 1 2), (2, pz_get 2 1 5), (5, pz_puti 2 1 8), (8, pz_al 0 9), (9, pz_al 1 10), (10, pz_get 2 2 13), (13, pz_puti 2 2 16), (16, pz_al 1 17), (17, pz_get 2 0 20), (20, pz_ic (0) 21), (21, pz_al 0 22), (22, pz_get 2 0 25), (25, pz_ic (0) 26), (26, pz_ic (24) 28), (28, pz_acopy 31), (31, pz_vret)]
theorem SX4_becomes_ : pz_Is KX4_becomes_ (IX4_becomes_) := ⟨pz_s_aload_n (a := 0) (by decide +kernel) rfl, pz_s_aload_n (a := 1) (by decide +kernel) rfl, pz_s_get (q0 := (RX4, TX4, 3)) (by decide +kernel) rfl (by decide) wf_X4_15, pz_s_puti (q0 := (RX4, TX4, 3)) (by decide +kernel) rfl (by decide) wf_X4_15 rfl (by decide +kernel), pz_s_aload_n (a := 0) (by decide +kernel) rfl, pz_s_aload_n (a := 1) (by decide +kernel) rfl, pz_s_get (q0 := (RX4, TX4, 3)) (by decide +kernel) rfl (by decide) wf_X4_19, pz_s_puti (q0 := (RX4, TX4, 3)) (by decide +kernel) rfl (by decide) wf_X4_19 rfl (by decide +kernel), pz_s_aload_n (a := 1) (by decide +kernel) rfl, pz_s_get (q0 := (RX4, TX4, 3)) (by decide +kernel) rfl (by decide) wf_X4_9, pz_s_iconst (a := 0) (by decide +kernel) (by decide), pz_s_aload_n (a := 0) (by decide +kernel) rfl, pz_s_get (q0 := (RX4, TX4, 3)) (by decide +kernel) rfl (by decide) wf_X4_9, pz_s_iconst (a := 0) (by decide +kernel) (by decide), pz_s_bipush (a := 24) (by decide +kernel) (by decide), pz_s_acopy (by decide +kernel) (by decide) wm_X4_22 wac1 wac2 wac3, pz_s_vreturn (by decide +kernel) rfl, trivial⟩
def IX4_isMissing : List (Nat × pz_I) := [(0, pz_al 0 1), (1, pz_get 2 1 4), (4, pz_ic (-1) 5), (5, pz_if2 (fun x y => ¬ x = y) (fun x y => x = y) 12 8), (8, pz_ic (1) 9), (9, pz_goto 13 12), (12, pz_ic (0) 13), (13, pz_zret)]
theorem SX4_isMissing : pz_Is KX4_isMissing (IX4_isMissing) := ⟨pz_s_aload_n (a := 0) (by decide +kernel) rfl, pz_s_get (q0 := (RX4, TX4, 3)) (by decide +kernel) rfl (by decide) wf_X4_15, pz_s_iconst (a := -1) (by decide +kernel) (by decide), pz_s_icmp_ne (off := 7) (by decide +kernel) (by decide), pz_s_iconst (a := 1) (by decide +kernel) (by decide), pz_s_goto (off := 4) (by decide +kernel) (by decide), pz_s_iconst (a := 0) (by decide +kernel) (by decide), pz_s_zreturn (by decide +kernel) rfl, trivial⟩
def IX4_hasPlace : List (Nat × pz_I) := [(0, pz_il 1 1), (1, pz_ic (0) 2), (2, pz_al 0 3), (3, pz_get 2 2 6), (6, pz_ic (1) 7), (7, pz_bin (fun x y => x - y) 8), (8, pz_cs yX9_within KX9_within 3 11), (11, pz_zret)]
theorem SX4_hasPlace : pz_Is KX4_hasPlace (IX4_hasPlace) := ⟨pz_s_iload_n (a := 1) (by decide +kernel) rfl, pz_s_iconst (a := 0) (by decide +kernel) (by decide), pz_s_aload_n (a := 0) (by decide +kernel) rfl, pz_s_get (q0 := (RX4, TX4, 3)) (by decide +kernel) rfl (by decide) wf_X4_19, pz_s_iconst (a := 1) (by decide +kernel) (by decide), pz_s_isub (by decide +kernel), pz_s_csN (by decide +kernel) ok_X4_28 (by decide) ⟨rfl, rfl⟩, pz_s_zreturn (by decide +kernel) rfl, trivial⟩
def IX4_hasPlaces : List (Nat × pz_I) := [(0, pz_il 2 1), (1, pz_ic (0) 2), (2, pz_al 0 3), (3, pz_get 2 2 6), (6, pz_cs yX9_within KX9_within 3 9), (9, pz_if0 (fun x => x = 0) (fun x => ¬ x = 0) 30 12), (12, pz_il 1 13), (13, pz_ic (0) 14), (14, pz_al 0 15), (15, pz_get 2 2 18), (18, pz_il 2 19), (19, pz_bin (fun x y => x - y) 20), (20, pz_cs yX9_within KX9_within 3 23), (23, pz_if0 (fun x => x = 0) (fun x => ¬ x = 0) 30 26), (26, pz_ic (1) 27), (27, pz_goto 31 30), (30, pz_ic (0) 31), (31, pz_zret)]
theorem SX4_hasPlaces : pz_Is KX4_hasPlaces (IX4_hasPlaces) := ⟨pz_s_iload_n (a := 2) (by decide +kernel) rfl, pz_s_iconst (a := 0) (by decide +kernel) (by decide), pz_s_aload_n (a := 0) (by decide +kernel) rfl, pz_s_get (q0 := (RX4, TX4, 3)) (by decide +kernel) rfl (by decide) wf_X4_19, pz_s_csN (by decide +kernel) ok_X4_28 (by decide) ⟨rfl, rfl⟩, pz_s_if_eq (off := 21) (by decide +kernel) (by decide), pz_s_iload_n (a := 1) (by decide +kernel) rfl, pz_s_iconst (a := 0) (by decide +kernel) (by decide), pz_s_aload_n (a := 0) (by decide +kernel) rfl, pz_s_get (q0 := (RX4, TX4, 3)) (by decide +kernel) rfl (by decide) wf_X4_19, pz_s_iload_n (a := 2) (by decide +kernel) rfl, pz_s_isub (by decide +kernel), pz_s_csN (by decide +kernel) ok_X4_28 (by decide) ⟨rfl, rfl⟩, pz_s_if_eq (off := 7) (by decide +kernel) (by decide), pz_s_iconst (a := 1) (by decide +kernel) (by decide), pz_s_goto (off := 4) (by decide +kernel) (by decide), pz_s_iconst (a := 0) (by decide +kernel) (by decide), pz_s_zreturn (by decide +kernel) rfl, trivial⟩
def IX4_isNumber : List (Nat × pz_I) := [(0, pz_al 0 1), (1, pz_get 2 0 4), (4, pz_il 1 5), (5, pz_iald 6), (6, pz_ic (-1000000005) 8), (8, pz_if2 (fun x y => x = y) (fun x y => ¬ x = y) 15 11), (11, pz_ic (1) 12), (12, pz_goto 16 15), (15, pz_ic (0) 16), (16, pz_zret)]
theorem SX4_isNumber : pz_Is KX4_isNumber (IX4_isNumber) := ⟨pz_s_aload_n (a := 0) (by decide +kernel) rfl, pz_s_get (q0 := (RX4, TX4, 3)) (by decide +kernel) rfl (by decide) wf_X4_9, pz_s_iload_n (a := 1) (by decide +kernel) rfl, pz_s_iald (by decide +kernel), pz_s_ldc (i := 32) (by decide +kernel) wc_X4_32, pz_s_icmp_eq (off := 7) (by decide +kernel) (by decide), pz_s_iconst (a := 1) (by decide +kernel) (by decide), pz_s_goto (off := 4) (by decide +kernel) (by decide), pz_s_iconst (a := 0) (by decide +kernel) (by decide), pz_s_zreturn (by decide +kernel) rfl, trivial⟩
def IX4_differsFrom : List (Nat × pz_I) := [(0, pz_ic (0) 1), (1, pz_is 2 2), (2, pz_ic (0) 3), (3, pz_is 3 4), (4, pz_il 3 5), (5, pz_al 0 6), (6, pz_get 2 2 9), (9, pz_if2 (fun x y => y ≤ x) (fun x y => ¬ y ≤ x) 42 12), (12, pz_al 0 13), (13, pz_il 3 14), (14, pz_cv0 yX4_isNumber KX4_isNumber 2 2 17), (17, pz_if0 (fun x => x = 0) (fun x => ¬ x = 0) 36 20), (20, pz_il 2 21), (21, pz_al 1 22), (22, pz_il 3 23), (23, pz_iald 24), (24, pz_al 0 25), (25, pz_get 2 0 28), (28, pz_il 3 29), (29, pz_iald 30), (30, pz_bin (fun x y => x - y) 31), (31, pz_mu (fun x => if 0 ≤ x then x else 0 - x) 34), (34, pz_bin (fun x y => x + y) 35), (35, pz_is 2 36), (36, pz_inc 3 (1) 39), (39, pz_goto 4 42), (42, pz_il 2 43), (43, pz_ret)]
theorem SX4_differsFrom : pz_Is KX4_differsFrom (IX4_differsFrom) := ⟨pz_s_iconst (a := 0) (by decide +kernel) (by decide), pz_s_istore_n (a := 2) (by decide +kernel) rfl, pz_s_iconst (a := 0) (by decide +kernel) (by decide), pz_s_istore_n (a := 3) (by decide +kernel) rfl, pz_s_iload_n (a := 3) (by decide +kernel) rfl, pz_s_aload_n (a := 0) (by decide +kernel) rfl, pz_s_get (q0 := (RX4, TX4, 3)) (by decide +kernel) rfl (by decide) wf_X4_19, pz_s_icmp_ge (off := 33) (by decide +kernel) (by decide), pz_s_aload_n (a := 0) (by decide +kernel) rfl, pz_s_iload_n (a := 3) (by decide +kernel) rfl, pz_s_cv0 (q0 := (RX4, TX4, 3)) (by decide +kernel) ok_X4_33 rfl rfl (by decide) ⟨rfl, rfl⟩, pz_s_if_eq (off := 19) (by decide +kernel) (by decide), pz_s_iload_n (a := 2) (by decide +kernel) rfl, pz_s_aload_n (a := 1) (by decide +kernel) rfl, pz_s_iload_n (a := 3) (by decide +kernel) rfl, pz_s_iald (by decide +kernel), pz_s_aload_n (a := 0) (by decide +kernel) rfl, pz_s_get (q0 := (RX4, TX4, 3)) (by decide +kernel) rfl (by decide) wf_X4_9, pz_s_iload_n (a := 3) (by decide +kernel) rfl, pz_s_iald (by decide +kernel), pz_s_isub (by decide +kernel), pz_s_mabs (by decide +kernel) (by decide) wm_X4_37 wms_abs wmi wmc_abs, pz_s_iadd (by decide +kernel), pz_s_istore_n (a := 2) (by decide +kernel) rfl, pz_s_iinc (a := 1) (by decide +kernel) (by decide), pz_s_goto (off := -35) (by decide +kernel) (by decide), pz_s_iload_n (a := 2) (by decide +kernel) rfl, pz_s_ireturn (by decide +kernel) rfl, trivial⟩
def IX4_firstUnlike : List (Nat × pz_I) := [(0, pz_ic (0) 1), (1, pz_is 2 2), (2, pz_il 2 3), (3, pz_al 0 4), (4, pz_get 2 2 7), (7, pz_if2 (fun x y => y ≤ x) (fun x y => ¬ y ≤ x) 38 10), (10, pz_al 0 11), (11, pz_il 2 12), (12, pz_cv0 yX4_isNumber KX4_isNumber 2 2 15), (15, pz_if0 (fun x => x = 0) (fun x => ¬ x = 0) 32 18), (18, pz_al 1 19), (19, pz_il 2 20), (20, pz_iald 21), (21, pz_al 0 22), (22, pz_get 2 0 25), (25, pz_il 2 26), (26, pz_iald 27), (27, pz_if2 (fun x y => x = y) (fun x y => ¬ x = y) 32 30), (30, pz_il 2 31), (31, pz_ret), (32, pz_inc 2 (1) 35), (35, pz_goto 2 38), (38, pz_ic (-1000000005) 40), (40, pz_ret)]
theorem SX4_firstUnlike : pz_Is KX4_firstUnlike (IX4_firstUnlike) := ⟨pz_s_iconst (a := 0) (by decide +kernel) (by decide), pz_s_istore_n (a := 2) (by decide +kernel) rfl, pz_s_iload_n (a := 2) (by decide +kernel) rfl, pz_s_aload_n (a := 0) (by decide +kernel) rfl, pz_s_get (q0 := (RX4, TX4, 3)) (by decide +kernel) rfl (by decide) wf_X4_19, pz_s_icmp_ge (off := 31) (by decide +kernel) (by decide), pz_s_aload_n (a := 0) (by decide +kernel) rfl, pz_s_iload_n (a := 2) (by decide +kernel) rfl, pz_s_cv0 (q0 := (RX4, TX4, 3)) (by decide +kernel) ok_X4_33 rfl rfl (by decide) ⟨rfl, rfl⟩, pz_s_if_eq (off := 17) (by decide +kernel) (by decide), pz_s_aload_n (a := 1) (by decide +kernel) rfl, pz_s_iload_n (a := 2) (by decide +kernel) rfl, pz_s_iald (by decide +kernel), pz_s_aload_n (a := 0) (by decide +kernel) rfl, pz_s_get (q0 := (RX4, TX4, 3)) (by decide +kernel) rfl (by decide) wf_X4_9, pz_s_iload_n (a := 2) (by decide +kernel) rfl, pz_s_iald (by decide +kernel), pz_s_icmp_eq (off := 5) (by decide +kernel) (by decide), pz_s_iload_n (a := 2) (by decide +kernel) rfl, pz_s_ireturn (by decide +kernel) rfl, pz_s_iinc (a := 1) (by decide +kernel) (by decide), pz_s_goto (off := -33) (by decide +kernel) (by decide), pz_s_ldc (i := 32) (by decide +kernel) wc_X4_32, pz_s_ireturn (by decide +kernel) rfl, trivial⟩
def IX4_poursInto_0 : List (Nat × pz_I) := [(0, pz_ic (0) 1), (1, pz_is 2 2), (2, pz_ic (0) 3), (3, pz_is 3 4), (4, pz_il 3 5), (5, pz_al 0 6), (6, pz_get 2 2 9), (9, pz_if2 (fun x y => y ≤ x) (fun x y => ¬ y ≤ x) 68 12), (12, pz_al 0 13), (13, pz_il 3 14), (14, pz_cv0 yX4_isNumber KX4_isNumber 2 2 17), (17, pz_if0 (fun x => x = 0) (fun x => ¬ x = 0) 41 20), (20, pz_ic (0) 21), (21, pz_gst 1 24), (24, pz_ic (0) 25), (25, pz_sald 1 26), (26, pz_al 0 27), (27, pz_get 2 0 30), (30, pz_il 3 31), (31, pz_iald 32), (32, pz_mb (fun x y => if y < x then y else x) 35), (35, pz_mb (fun x y => if x < y then y else x) 38), (38, pz_goto 44 41), (41, pz_al 1 42), (42, pz_il 3 43), (43, pz_iald 44), (44, pz_is 4 46), (46, pz_il 4 48), (48, pz_al 1 49), (49, pz_il 3 50), (50, pz_iald 51), (51, pz_if2 (fun x y => x = y) (fun x y => ¬ x = y) 62 54), (54, pz_al 1 55), (55, pz_il 3 56), (56, pz_il 4 58), (58, pz_iast 59), (59, pz_inc 2 (1) 62), (62, pz_inc 3 (1) 65), (65, pz_goto 4 68), (68, pz_il 2 69)]
theorem SX4_poursInto_0 : pz_Is KX4_poursInto (IX4_poursInto_0) := ⟨pz_s_iconst (a := 0) (by decide +kernel) (by decide), pz_s_istore_n (a := 2) (by decide +kernel) rfl, pz_s_iconst (a := 0) (by decide +kernel) (by decide), pz_s_istore_n (a := 3) (by decide +kernel) rfl, pz_s_iload_n (a := 3) (by decide +kernel) rfl, pz_s_aload_n (a := 0) (by decide +kernel) rfl, pz_s_get (q0 := (RX4, TX4, 3)) (by decide +kernel) rfl (by decide) wf_X4_19, pz_s_icmp_ge (off := 59) (by decide +kernel) (by decide), pz_s_aload_n (a := 0) (by decide +kernel) rfl, pz_s_iload_n (a := 3) (by decide +kernel) rfl, pz_s_cv0 (q0 := (RX4, TX4, 3)) (by decide +kernel) ok_X4_33 rfl rfl (by decide) ⟨rfl, rfl⟩, pz_s_if_eq (off := 24) (by decide +kernel) (by decide), pz_s_iconst (a := 0) (by decide +kernel) (by decide), pz_s_gstN (i := 43) (host := "LittlePot") (by decide +kernel) (by decide) (List.mem_filter.mpr ⟨by decide +kernel, rfl⟩), pz_s_iconst (a := 0) (by decide +kernel) (by decide), pz_s_sald (by decide +kernel) (by decide), pz_s_aload_n (a := 0) (by decide +kernel) rfl, pz_s_get (q0 := (RX4, TX4, 3)) (by decide +kernel) rfl (by decide) wf_X4_9, pz_s_iload_n (a := 3) (by decide +kernel) rfl, pz_s_iald (by decide +kernel), pz_s_mmin (by decide +kernel) (by decide) wm_X4_46 wms_min wmi wmc_min, pz_s_mmax (by decide +kernel) (by decide) wm_X4_50 wms_max wmi wmc_max, pz_s_goto (off := 6) (by decide +kernel) (by decide), pz_s_aload_n (a := 1) (by decide +kernel) rfl, pz_s_iload_n (a := 3) (by decide +kernel) rfl, pz_s_iald (by decide +kernel), pz_s_istore (by decide +kernel), pz_s_iload (by decide +kernel), pz_s_aload_n (a := 1) (by decide +kernel) rfl, pz_s_iload_n (a := 3) (by decide +kernel) rfl, pz_s_iald (by decide +kernel), pz_s_icmp_eq (off := 11) (by decide +kernel) (by decide), pz_s_aload_n (a := 1) (by decide +kernel) rfl, pz_s_iload_n (a := 3) (by decide +kernel) rfl, pz_s_iload (by decide +kernel), pz_s_iast (by decide +kernel), pz_s_iinc (a := 1) (by decide +kernel) (by decide), pz_s_iinc (a := 1) (by decide +kernel) (by decide), pz_s_goto (off := -61) (by decide +kernel) (by decide), pz_s_iload_n (a := 2) (by decide +kernel) rfl, trivial⟩
def IX4_poursInto_1 : List (Nat × pz_I) := [(69, pz_ret)]
theorem SX4_poursInto_1 : pz_Is KX4_poursInto (IX4_poursInto_1) := ⟨pz_s_ireturn (by decide +kernel) rfl, trivial⟩
def IX4_poursInto : List (Nat × pz_I) := IX4_poursInto_0 ++ (IX4_poursInto_1)
theorem SX4_poursInto : pz_Is KX4_poursInto (IX4_poursInto) := pz_Is_app (SX4_poursInto_0) (SX4_poursInto_1)
def IX5_init : List (Nat × pz_I) := [(0, pz_al 0 1), (1, pz_oinit 4), (4, pz_al 0 5), (5, pz_new 2 27 2 3 nf_2 8), (8, pz_dup 9), (9, pz_ci 2 27 yX4_init KX4_init 1 12), (12, pz_puta 3 4 15), (15, pz_vret)]
theorem SX5_init : pz_Is KX5_init (IX5_init) := ⟨pz_s_aload_n (a := 0) (by decide +kernel) rfl, pz_s_oinit (by decide +kernel) (by decide) wm_X5_1 woi1 woi2, pz_s_aload_n (a := 0) (by decide +kernel) rfl, pz_s_new (q0 := (RX4, TX4, 3)) (by decide +kernel) rfl tyX4 tyX4_ok (by decide) (fun _ => rfl) wk_X5_7 wi_RX4 wn_RX4, pz_s_dup (by decide +kernel), pz_s_ciN (by decide +kernel) rfl ok_X5_9 (by decide), pz_s_putaF (nm := "LittlePot$Sheet") (q0 := (RX5, TX5, 5)) (by decide +kernel) rfl (by decide) wf_X5_10 rfl (by decide +kernel) rfl rfl, pz_s_vreturn (by decide +kernel) rfl, trivial⟩
def IX6_init : List (Nat × pz_I) := [(0, pz_al 0 1), (1, pz_oinit 4), (4, pz_al 0 5), (5, pz_ic (96) 7), (7, pz_newa 1 96 0 96 9), (9, pz_puta 4 0 12), (12, pz_vret)]
theorem SX6_init : pz_Is KX6_init (IX6_init) := ⟨pz_s_aload_n (a := 0) (by decide +kernel) rfl, pz_s_oinit (by decide +kernel) (by decide) wm_X6_3 woi1 woi2, pz_s_aload_n (a := 0) (by decide +kernel) rfl, pz_s_bipush (a := 96) (by decide +kernel) (by decide), pz_s_newi (by decide +kernel) (by decide) wa_int, pz_s_putaFA (t9 := .int) (q0 := (RX6, TX6, 4)) (by decide +kernel) rfl (by decide) wf_X6_9 rfl (by decide +kernel) rfl rfl, pz_s_vreturn (by decide +kernel) rfl, trivial⟩
def IX6_begins : List (Nat × pz_I) := [(0, pz_al 0 1), (1, pz_il 1 2), (2, pz_puti 4 2 5), (5, pz_al 0 6), (6, pz_ic (0) 7), (7, pz_puti 4 1 10), (10, pz_al 0 11), (11, pz_ic (0) 12), (12, pz_puti 4 3 15), (15, pz_vret)]
theorem SX6_begins : pz_Is KX6_begins (IX6_begins) := ⟨pz_s_aload_n (a := 0) (by decide +kernel) rfl, pz_s_iload_n (a := 1) (by decide +kernel) rfl, pz_s_puti (q0 := (RX6, TX6, 4)) (by decide +kernel) rfl (by decide) wf_X6_15 rfl (by decide +kernel), pz_s_aload_n (a := 0) (by decide +kernel) rfl, pz_s_iconst (a := 0) (by decide +kernel) (by decide), pz_s_puti (q0 := (RX6, TX6, 4)) (by decide +kernel) rfl (by decide) wf_X6_19 rfl (by decide +kernel), pz_s_aload_n (a := 0) (by decide +kernel) rfl, pz_s_iconst (a := 0) (by decide +kernel) (by decide), pz_s_puti (q0 := (RX6, TX6, 4)) (by decide +kernel) rfl (by decide) wf_X6_22 rfl (by decide +kernel), pz_s_vreturn (by decide +kernel) rfl, trivial⟩
def IX6_adds : List (Nat × pz_I) := [(0, pz_al 0 1), (1, pz_get 4 1 4), (4, pz_al 0 5), (5, pz_get 4 0 8), (8, pz_alen 9), (9, pz_if2 (fun x y => y ≤ x) (fun x y => ¬ y ≤ x) 32 12), (12, pz_al 0 13), (13, pz_get 4 0 16), (16, pz_al 0 17), (17, pz_get 4 1 20), (20, pz_il 1 21), (21, pz_iast 22), (22, pz_al 0 23), (23, pz_dup 24), (24, pz_get 4 1 27), (27, pz_ic (1) 28), (28, pz_bin (fun x y => x + y) 29), (29, pz_puti 4 1 32), (32, pz_vret)]
theorem SX6_adds : pz_Is KX6_adds (IX6_adds) := ⟨pz_s_aload_n (a := 0) (by decide +kernel) rfl, pz_s_get (q0 := (RX6, TX6, 4)) (by decide +kernel) rfl (by decide) wf_X6_19, pz_s_aload_n (a := 0) (by decide +kernel) rfl, pz_s_get (q0 := (RX6, TX6, 4)) (by decide +kernel) rfl (by decide) wf_X6_9, pz_s_alen (by decide +kernel), pz_s_icmp_ge (off := 23) (by decide +kernel) (by decide), pz_s_aload_n (a := 0) (by decide +kernel) rfl, pz_s_get (q0 := (RX6, TX6, 4)) (by decide +kernel) rfl (by decide) wf_X6_9, pz_s_aload_n (a := 0) (by decide +kernel) rfl, pz_s_get (q0 := (RX6, TX6, 4)) (by decide +kernel) rfl (by decide) wf_X6_19, pz_s_iload_n (a := 1) (by decide +kernel) rfl, pz_s_iast (by decide +kernel), pz_s_aload_n (a := 0) (by decide +kernel) rfl, pz_s_dup (by decide +kernel), pz_s_get (q0 := (RX6, TX6, 4)) (by decide +kernel) rfl (by decide) wf_X6_19, pz_s_iconst (a := 1) (by decide +kernel) (by decide), pz_s_iadd (by decide +kernel), pz_s_puti (q0 := (RX6, TX6, 4)) (by decide +kernel) rfl (by decide) wf_X6_19 rfl (by decide +kernel), pz_s_vreturn (by decide +kernel) rfl, trivial⟩
def IX7_init_0 : List (Nat × pz_I) := [(0, pz_al 0 1), (1, pz_oinit 4), (4, pz_al 0 5), (5, pz_ic (36) 7), (7, pz_newa 7 136 0 36 9), (9, pz_puta 5 0 12), (12, pz_al 0 13), (13, pz_ic (36) 15), (15, pz_newa 7 136 0 36 17), (17, pz_puta 5 1 20), (20, pz_al 0 21), (21, pz_ic (36) 23), (23, pz_newa 7 136 0 36 25), (25, pz_puta 5 2 28), (28, pz_al 0 29), (29, pz_ic (8) 31), (31, pz_newa 7 136 0 8 33), (33, pz_puta 5 3 36), (36, pz_al 0 37), (37, pz_ic (8) 39), (39, pz_newa 7 136 0 8 41), (41, pz_puta 5 4 44), (44, pz_al 0 45), (45, pz_ic (8) 47), (47, pz_newa 7 136 0 8 49), (49, pz_puta 5 5 52), (52, pz_al 0 53), (53, pz_ic (4) 54), (54, pz_newa 7 136 0 4 56), (56, pz_dup 57), (57, pz_ic (0) 58), (58, pz_ic (7) 60), (60, pz_iast 61), (61, pz_dup 62), (62, pz_ic (1) 63), (63, pz_ic (20) 65), (65, pz_iast 66), (66, pz_dup 67), (67, pz_ic (2) 68), (68, pz_ic (0) 69)]
theorem SX7_init_0 : pz_Is KX7_init (IX7_init_0) := ⟨pz_s_aload_n (a := 0) (by decide +kernel) rfl, pz_s_oinit (by decide +kernel) (by decide) wm_X7_3 woi1 woi2, pz_s_aload_n (a := 0) (by decide +kernel) rfl, pz_s_bipush (a := 36) (by decide +kernel) (by decide), pz_s_newi (by decide +kernel) (by decide) wa_int, pz_s_putaFA (t9 := .int) (q0 := (RX7, TX7, 14)) (by decide +kernel) rfl (by decide) wf_X7_9 rfl (by decide +kernel) rfl rfl, pz_s_aload_n (a := 0) (by decide +kernel) rfl, pz_s_bipush (a := 36) (by decide +kernel) (by decide), pz_s_newi (by decide +kernel) (by decide) wa_int, pz_s_putaFA (t9 := .int) (q0 := (RX7, TX7, 14)) (by decide +kernel) rfl (by decide) wf_X7_15 rfl (by decide +kernel) rfl rfl, pz_s_aload_n (a := 0) (by decide +kernel) rfl, pz_s_bipush (a := 36) (by decide +kernel) (by decide), pz_s_newi (by decide +kernel) (by decide) wa_int, pz_s_putaFA (t9 := .int) (q0 := (RX7, TX7, 14)) (by decide +kernel) rfl (by decide) wf_X7_18 rfl (by decide +kernel) rfl rfl, pz_s_aload_n (a := 0) (by decide +kernel) rfl, pz_s_bipush (a := 8) (by decide +kernel) (by decide), pz_s_newi (by decide +kernel) (by decide) wa_int, pz_s_putaFA (t9 := .int) (q0 := (RX7, TX7, 14)) (by decide +kernel) rfl (by decide) wf_X7_21 rfl (by decide +kernel) rfl rfl, pz_s_aload_n (a := 0) (by decide +kernel) rfl, pz_s_bipush (a := 8) (by decide +kernel) (by decide), pz_s_newi (by decide +kernel) (by decide) wa_int, pz_s_putaFA (t9 := .int) (q0 := (RX7, TX7, 14)) (by decide +kernel) rfl (by decide) wf_X7_24 rfl (by decide +kernel) rfl rfl, pz_s_aload_n (a := 0) (by decide +kernel) rfl, pz_s_bipush (a := 8) (by decide +kernel) (by decide), pz_s_newi (by decide +kernel) (by decide) wa_int, pz_s_putaFA (t9 := .int) (q0 := (RX7, TX7, 14)) (by decide +kernel) rfl (by decide) wf_X7_27 rfl (by decide +kernel) rfl rfl, pz_s_aload_n (a := 0) (by decide +kernel) rfl, pz_s_iconst (a := 4) (by decide +kernel) (by decide), pz_s_newi (by decide +kernel) (by decide) wa_int, pz_s_dup (by decide +kernel), pz_s_iconst (a := 0) (by decide +kernel) (by decide), pz_s_bipush (a := 7) (by decide +kernel) (by decide), pz_s_iast (by decide +kernel), pz_s_dup (by decide +kernel), pz_s_iconst (a := 1) (by decide +kernel) (by decide), pz_s_bipush (a := 20) (by decide +kernel) (by decide), pz_s_iast (by decide +kernel), pz_s_dup (by decide +kernel), pz_s_iconst (a := 2) (by decide +kernel) (by decide), pz_s_iconst (a := 0) (by decide +kernel) (by decide), trivial⟩
def IX7_init_1 : List (Nat × pz_I) := [(69, pz_iast 70), (70, pz_dup 71), (71, pz_ic (3) 72), (72, pz_ic (0) 73), (73, pz_iast 74), (74, pz_puta 5 6 77), (77, pz_al 0 78), (78, pz_ic (1) 79), (79, pz_puti 5 11 82), (82, pz_al 0 83), (83, pz_al 1 84), (84, pz_puta 5 13 87), (87, pz_vret)]
theorem SX7_init_1 : pz_Is KX7_init (IX7_init_1) := ⟨pz_s_iast (by decide +kernel), pz_s_dup (by decide +kernel), pz_s_iconst (a := 3) (by decide +kernel) (by decide), pz_s_iconst (a := 0) (by decide +kernel) (by decide), pz_s_iast (by decide +kernel), pz_s_putaFA (t9 := .int) (q0 := (RX7, TX7, 14)) (by decide +kernel) rfl (by decide) wf_X7_30 rfl (by decide +kernel) rfl rfl, pz_s_aload_n (a := 0) (by decide +kernel) rfl, pz_s_iconst (a := 1) (by decide +kernel) (by decide), pz_s_puti (q0 := (RX7, TX7, 14)) (by decide +kernel) rfl (by decide) wf_X7_33 rfl (by decide +kernel), pz_s_aload_n (a := 0) (by decide +kernel) rfl, pz_s_aload_n (a := 1) (by decide +kernel) rfl, pz_s_putaF (nm := "LittlePot$Laws") (q0 := (RX7, TX7, 14)) (by decide +kernel) rfl (by decide) wf_X7_37 rfl (by decide +kernel) rfl rfl, pz_s_vreturn (by decide +kernel) rfl, trivial⟩
def IX7_init : List (Nat × pz_I) := IX7_init_0 ++ (IX7_init_1)
theorem SX7_init : pz_Is KX7_init (IX7_init) := pz_Is_app (SX7_init_0) (SX7_init_1)
def IX7_becomes_0 : List (Nat × pz_I) := [(0, pz_al 1 1), (1, pz_get 5 0 4), (4, pz_ic (0) 5), (5, pz_al 0 6), (6, pz_get 5 0 9), (9, pz_ic (0) 10), (10, pz_ic (36) 12), (12, pz_acopy 15), (15, pz_al 1 16), (16, pz_get 5 1 19), (19, pz_ic (0) 20), (20, pz_al 0 21), (21, pz_get 5 1 24), (24, pz_ic (0) 25), (25, pz_ic (36) 27), (27, pz_acopy 30), (30, pz_al 1 31), (31, pz_get 5 2 34), (34, pz_ic (0) 35), (35, pz_al 0 36), (36, pz_get 5 2 39), (39, pz_ic (0) 40), (40, pz_ic (36) 42), (42, pz_acopy 45), (45, pz_al 1 46), (46, pz_get 5 3 49), (49, pz_ic (0) 50), (50, pz_al 0 51), (51, pz_get 5 3 54), (54, pz_ic (0) 55), (55, pz_ic (8) 57), (57, pz_acopy 60), (60, pz_al 1 61), (61, pz_get 5 4 64), (64, pz_ic (0) 65), (65, pz_al 0 66), (66, pz_get 5 4 69), (69, pz_ic (0) 70), (70, pz_ic (8) 72), (72, pz_acopy 75)]
theorem SX7_becomes_0 : pz_Is KX7_becomes (IX7_becomes_0) := ⟨pz_s_aload_n (a := 1) (by decide +kernel) rfl, pz_s_get (q0 := (RX7, TX7, 14)) (by decide +kernel) rfl (by decide) wf_X7_9, pz_s_iconst (a := 0) (by decide +kernel) (by decide), pz_s_aload_n (a := 0) (by decide +kernel) rfl, pz_s_get (q0 := (RX7, TX7, 14)) (by decide +kernel) rfl (by decide) wf_X7_9, pz_s_iconst (a := 0) (by decide +kernel) (by decide), pz_s_bipush (a := 36) (by decide +kernel) (by decide), pz_s_acopy (by decide +kernel) (by decide) wm_X7_41 wac1 wac2 wac3, pz_s_aload_n (a := 1) (by decide +kernel) rfl, pz_s_get (q0 := (RX7, TX7, 14)) (by decide +kernel) rfl (by decide) wf_X7_15, pz_s_iconst (a := 0) (by decide +kernel) (by decide), pz_s_aload_n (a := 0) (by decide +kernel) rfl, pz_s_get (q0 := (RX7, TX7, 14)) (by decide +kernel) rfl (by decide) wf_X7_15, pz_s_iconst (a := 0) (by decide +kernel) (by decide), pz_s_bipush (a := 36) (by decide +kernel) (by decide), pz_s_acopy (by decide +kernel) (by decide) wm_X7_41 wac1 wac2 wac3, pz_s_aload_n (a := 1) (by decide +kernel) rfl, pz_s_get (q0 := (RX7, TX7, 14)) (by decide +kernel) rfl (by decide) wf_X7_18, pz_s_iconst (a := 0) (by decide +kernel) (by decide), pz_s_aload_n (a := 0) (by decide +kernel) rfl, pz_s_get (q0 := (RX7, TX7, 14)) (by decide +kernel) rfl (by decide) wf_X7_18, pz_s_iconst (a := 0) (by decide +kernel) (by decide), pz_s_bipush (a := 36) (by decide +kernel) (by decide), pz_s_acopy (by decide +kernel) (by decide) wm_X7_41 wac1 wac2 wac3, pz_s_aload_n (a := 1) (by decide +kernel) rfl, pz_s_get (q0 := (RX7, TX7, 14)) (by decide +kernel) rfl (by decide) wf_X7_21, pz_s_iconst (a := 0) (by decide +kernel) (by decide), pz_s_aload_n (a := 0) (by decide +kernel) rfl, pz_s_get (q0 := (RX7, TX7, 14)) (by decide +kernel) rfl (by decide) wf_X7_21, pz_s_iconst (a := 0) (by decide +kernel) (by decide), pz_s_bipush (a := 8) (by decide +kernel) (by decide), pz_s_acopy (by decide +kernel) (by decide) wm_X7_41 wac1 wac2 wac3, pz_s_aload_n (a := 1) (by decide +kernel) rfl, pz_s_get (q0 := (RX7, TX7, 14)) (by decide +kernel) rfl (by decide) wf_X7_24, pz_s_iconst (a := 0) (by decide +kernel) (by decide), pz_s_aload_n (a := 0) (by decide +kernel) rfl, pz_s_get (q0 := (RX7, TX7, 14)) (by decide +kernel) rfl (by decide) wf_X7_24, pz_s_iconst (a := 0) (by decide +kernel) (by decide), pz_s_bipush (a := 8) (by decide +kernel) (by decide), pz_s_acopy (by decide +kernel) (by decide) wm_X7_41 wac1 wac2 wac3, trivial⟩
def IX7_becomes_1 : List (Nat × pz_I) := [(75, pz_al 1 76), (76, pz_get 5 5 79), (79, pz_ic (0) 80), (80, pz_al 0 81), (81, pz_get 5 5 84), (84, pz_ic (0) 85), (85, pz_ic (8) 87), (87, pz_acopy 90), (90, pz_al 1 91), (91, pz_get 5 6 94), (94, pz_ic (0) 95), (95, pz_al 0 96), (96, pz_get 5 6 99), (99, pz_ic (0) 100), (100, pz_al 0 101), (101, pz_get 5 6 104), (104, pz_alen 105), (105, pz_acopy 108), (108, pz_al 0 109), (109, pz_al 1 110), (110, pz_get 5 7 113), (113, pz_puti 5 7 116), (116, pz_al 0 117), (117, pz_al 1 118), (118, pz_get 5 8 121), (121, pz_puti 5 8 124), (124, pz_al 0 125), (125, pz_al 1 126), (126, pz_get 5 9 129), (129, pz_putz 5 9 132), (132, pz_al 0 133), (133, pz_al 1 134), (134, pz_get 5 10 137), (137, pz_puti 5 10 140), (140, pz_al 0 141), (141, pz_al 1 142), (142, pz_get 5 11 145), (145, pz_puti 5 11 148), (148, pz_al 0 149), (149, pz_al 1 150)]
theorem SX7_becomes_1 : pz_Is KX7_becomes (IX7_becomes_1) := ⟨pz_s_aload_n (a := 1) (by decide +kernel) rfl, pz_s_get (q0 := (RX7, TX7, 14)) (by decide +kernel) rfl (by decide) wf_X7_27, pz_s_iconst (a := 0) (by decide +kernel) (by decide), pz_s_aload_n (a := 0) (by decide +kernel) rfl, pz_s_get (q0 := (RX7, TX7, 14)) (by decide +kernel) rfl (by decide) wf_X7_27, pz_s_iconst (a := 0) (by decide +kernel) (by decide), pz_s_bipush (a := 8) (by decide +kernel) (by decide), pz_s_acopy (by decide +kernel) (by decide) wm_X7_41 wac1 wac2 wac3, pz_s_aload_n (a := 1) (by decide +kernel) rfl, pz_s_get (q0 := (RX7, TX7, 14)) (by decide +kernel) rfl (by decide) wf_X7_30, pz_s_iconst (a := 0) (by decide +kernel) (by decide), pz_s_aload_n (a := 0) (by decide +kernel) rfl, pz_s_get (q0 := (RX7, TX7, 14)) (by decide +kernel) rfl (by decide) wf_X7_30, pz_s_iconst (a := 0) (by decide +kernel) (by decide), pz_s_aload_n (a := 0) (by decide +kernel) rfl, pz_s_get (q0 := (RX7, TX7, 14)) (by decide +kernel) rfl (by decide) wf_X7_30, pz_s_alen (by decide +kernel), pz_s_acopy (by decide +kernel) (by decide) wm_X7_41 wac1 wac2 wac3, pz_s_aload_n (a := 0) (by decide +kernel) rfl, pz_s_aload_n (a := 1) (by decide +kernel) rfl, pz_s_get (q0 := (RX7, TX7, 14)) (by decide +kernel) rfl (by decide) wf_X7_47, pz_s_puti (q0 := (RX7, TX7, 14)) (by decide +kernel) rfl (by decide) wf_X7_47 rfl (by decide +kernel), pz_s_aload_n (a := 0) (by decide +kernel) rfl, pz_s_aload_n (a := 1) (by decide +kernel) rfl, pz_s_get (q0 := (RX7, TX7, 14)) (by decide +kernel) rfl (by decide) wf_X7_50, pz_s_puti (q0 := (RX7, TX7, 14)) (by decide +kernel) rfl (by decide) wf_X7_50 rfl (by decide +kernel), pz_s_aload_n (a := 0) (by decide +kernel) rfl, pz_s_aload_n (a := 1) (by decide +kernel) rfl, pz_s_get (q0 := (RX7, TX7, 14)) (by decide +kernel) rfl (by decide) wf_X7_53, pz_s_putz (q0 := (RX7, TX7, 14)) (by decide +kernel) rfl (by decide) wf_X7_53 rfl (by decide +kernel), pz_s_aload_n (a := 0) (by decide +kernel) rfl, pz_s_aload_n (a := 1) (by decide +kernel) rfl, pz_s_get (q0 := (RX7, TX7, 14)) (by decide +kernel) rfl (by decide) wf_X7_57, pz_s_puti (q0 := (RX7, TX7, 14)) (by decide +kernel) rfl (by decide) wf_X7_57 rfl (by decide +kernel), pz_s_aload_n (a := 0) (by decide +kernel) rfl, pz_s_aload_n (a := 1) (by decide +kernel) rfl, pz_s_get (q0 := (RX7, TX7, 14)) (by decide +kernel) rfl (by decide) wf_X7_33, pz_s_puti (q0 := (RX7, TX7, 14)) (by decide +kernel) rfl (by decide) wf_X7_33 rfl (by decide +kernel), pz_s_aload_n (a := 0) (by decide +kernel) rfl, pz_s_aload_n (a := 1) (by decide +kernel) rfl, trivial⟩
def IX7_becomes_2 : List (Nat × pz_I) := [(150, pz_get 5 12 153), (153, pz_puti 5 12 156), (156, pz_vret)]
theorem SX7_becomes_2 : pz_Is KX7_becomes (IX7_becomes_2) := ⟨pz_s_get (q0 := (RX7, TX7, 14)) (by decide +kernel) rfl (by decide) wf_X7_60, pz_s_puti (q0 := (RX7, TX7, 14)) (by decide +kernel) rfl (by decide) wf_X7_60 rfl (by decide +kernel), pz_s_vreturn (by decide +kernel) rfl, trivial⟩
def IX7_becomes : List (Nat × pz_I) := IX7_becomes_0 ++ (IX7_becomes_1 ++ (IX7_becomes_2))
theorem SX7_becomes : pz_Is KX7_becomes (IX7_becomes) := pz_Is_app (SX7_becomes_0) (pz_Is_app (SX7_becomes_1) (SX7_becomes_2))
def IX7_hasEater : List (Nat × pz_I) := [(0, pz_il 1 1), (1, pz_ic (0) 2), (2, pz_al 0 3), (3, pz_get 5 7 6), (6, pz_ic (1) 7), (7, pz_bin (fun x y => x - y) 8), (8, pz_cs yX9_within KX9_within 3 11), (11, pz_zret)]
theorem SX7_hasEater : pz_Is KX7_hasEater (IX7_hasEater) := ⟨pz_s_iload_n (a := 1) (by decide +kernel) rfl, pz_s_iconst (a := 0) (by decide +kernel) (by decide), pz_s_aload_n (a := 0) (by decide +kernel) rfl, pz_s_get (q0 := (RX7, TX7, 14)) (by decide +kernel) rfl (by decide) wf_X7_47, pz_s_iconst (a := 1) (by decide +kernel) (by decide), pz_s_isub (by decide +kernel), pz_s_csN (by decide +kernel) ok_X7_63 (by decide) ⟨rfl, rfl⟩, pz_s_zreturn (by decide +kernel) rfl, trivial⟩
def IX7_comes : List (Nat × pz_I) := [(0, pz_al 0 1), (1, pz_get 5 7 4), (4, pz_is 3 5), (5, pz_il 3 6), (6, pz_ic (8) 8), (8, pz_if2 (fun x y => y ≤ x) (fun x y => ¬ y ≤ x) 42 11), (11, pz_al 0 12), (12, pz_get 5 3 15), (15, pz_il 3 16), (16, pz_il 1 17), (17, pz_iast 18), (18, pz_al 0 19), (19, pz_get 5 4 22), (22, pz_il 3 23), (23, pz_il 2 24), (24, pz_iast 25), (25, pz_al 0 26), (26, pz_get 5 5 29), (29, pz_il 3 30), (30, pz_ic (0) 31), (31, pz_iast 32), (32, pz_al 0 33), (33, pz_dup 34), (34, pz_get 5 7 37), (37, pz_ic (1) 38), (38, pz_bin (fun x y => x + y) 39), (39, pz_puti 5 7 42), (42, pz_il 3 43), (43, pz_ret)]
theorem SX7_comes : pz_Is KX7_comes (IX7_comes) := ⟨pz_s_aload_n (a := 0) (by decide +kernel) rfl, pz_s_get (q0 := (RX7, TX7, 14)) (by decide +kernel) rfl (by decide) wf_X7_47, pz_s_istore_n (a := 3) (by decide +kernel) rfl, pz_s_iload_n (a := 3) (by decide +kernel) rfl, pz_s_bipush (a := 8) (by decide +kernel) (by decide), pz_s_icmp_ge (off := 34) (by decide +kernel) (by decide), pz_s_aload_n (a := 0) (by decide +kernel) rfl, pz_s_get (q0 := (RX7, TX7, 14)) (by decide +kernel) rfl (by decide) wf_X7_21, pz_s_iload_n (a := 3) (by decide +kernel) rfl, pz_s_iload_n (a := 1) (by decide +kernel) rfl, pz_s_iast (by decide +kernel), pz_s_aload_n (a := 0) (by decide +kernel) rfl, pz_s_get (q0 := (RX7, TX7, 14)) (by decide +kernel) rfl (by decide) wf_X7_24, pz_s_iload_n (a := 3) (by decide +kernel) rfl, pz_s_iload_n (a := 2) (by decide +kernel) rfl, pz_s_iast (by decide +kernel), pz_s_aload_n (a := 0) (by decide +kernel) rfl, pz_s_get (q0 := (RX7, TX7, 14)) (by decide +kernel) rfl (by decide) wf_X7_27, pz_s_iload_n (a := 3) (by decide +kernel) rfl, pz_s_iconst (a := 0) (by decide +kernel) (by decide), pz_s_iast (by decide +kernel), pz_s_aload_n (a := 0) (by decide +kernel) rfl, pz_s_dup (by decide +kernel), pz_s_get (q0 := (RX7, TX7, 14)) (by decide +kernel) rfl (by decide) wf_X7_47, pz_s_iconst (a := 1) (by decide +kernel) (by decide), pz_s_iadd (by decide +kernel), pz_s_puti (q0 := (RX7, TX7, 14)) (by decide +kernel) rfl (by decide) wf_X7_47 rfl (by decide +kernel), pz_s_iload_n (a := 3) (by decide +kernel) rfl, pz_s_ireturn (by decide +kernel) rfl, trivial⟩
def IX7_laid : List (Nat × pz_I) := [(0, pz_il 1 1), (1, pz_if0 (fun x => ¬ x = 0) (fun x => x = 0) 9 4), (4, pz_al 0 5), (5, pz_get 5 0 8), (8, pz_aret), (9, pz_il 1 10), (10, pz_ic (1) 11), (11, pz_if2 (fun x y => ¬ x = y) (fun x y => x = y) 21 14), (14, pz_al 0 15), (15, pz_get 5 1 18), (18, pz_goto 25 21), (21, pz_al 0 22), (22, pz_get 5 2 25), (25, pz_aret)]
theorem SX7_laid : pz_Is KX7_laid (IX7_laid) := ⟨pz_s_iload_n (a := 1) (by decide +kernel) rfl, pz_s_if_ne (off := 8) (by decide +kernel) (by decide), pz_s_aload_n (a := 0) (by decide +kernel) rfl, pz_s_get (q0 := (RX7, TX7, 14)) (by decide +kernel) rfl (by decide) wf_X7_9, pz_s_areturn (by decide +kernel) (Or.inr ⟨_, rfl⟩), pz_s_iload_n (a := 1) (by decide +kernel) rfl, pz_s_iconst (a := 1) (by decide +kernel) (by decide), pz_s_icmp_ne (off := 10) (by decide +kernel) (by decide), pz_s_aload_n (a := 0) (by decide +kernel) rfl, pz_s_get (q0 := (RX7, TX7, 14)) (by decide +kernel) rfl (by decide) wf_X7_15, pz_s_goto (off := 7) (by decide +kernel) (by decide), pz_s_aload_n (a := 0) (by decide +kernel) rfl, pz_s_get (q0 := (RX7, TX7, 14)) (by decide +kernel) rfl (by decide) wf_X7_18, pz_s_areturn (by decide +kernel) (Or.inr ⟨_, rfl⟩), trivial⟩
def IX7_level : List (Nat × pz_I) := [(0, pz_ic (10) 2), (2, pz_al 0 3), (3, pz_get 5 0 6), (6, pz_il 1 7), (7, pz_iald 8), (8, pz_al 0 9), (9, pz_get 5 1 12), (12, pz_il 1 13), (13, pz_iald 14), (14, pz_bin (fun x y => x + y) 15), (15, pz_bin (fun x y => x * y) 16), (16, pz_al 0 17), (17, pz_get 5 2 20), (20, pz_il 1 21), (21, pz_iald 22), (22, pz_bin (fun x y => x + y) 23), (23, pz_ret)]
theorem SX7_level : pz_Is KX7_level (IX7_level) := ⟨pz_s_bipush (a := 10) (by decide +kernel) (by decide), pz_s_aload_n (a := 0) (by decide +kernel) rfl, pz_s_get (q0 := (RX7, TX7, 14)) (by decide +kernel) rfl (by decide) wf_X7_9, pz_s_iload_n (a := 1) (by decide +kernel) rfl, pz_s_iald (by decide +kernel), pz_s_aload_n (a := 0) (by decide +kernel) rfl, pz_s_get (q0 := (RX7, TX7, 14)) (by decide +kernel) rfl (by decide) wf_X7_15, pz_s_iload_n (a := 1) (by decide +kernel) rfl, pz_s_iald (by decide +kernel), pz_s_iadd (by decide +kernel), pz_s_imul (by decide +kernel), pz_s_aload_n (a := 0) (by decide +kernel) rfl, pz_s_get (q0 := (RX7, TX7, 14)) (by decide +kernel) rfl (by decide) wf_X7_18, pz_s_iload_n (a := 1) (by decide +kernel) rfl, pz_s_iald (by decide +kernel), pz_s_iadd (by decide +kernel), pz_s_ireturn (by decide +kernel) rfl, trivial⟩
def IX7_allParts : List (Nat × pz_I) := [(0, pz_ic (0) 1), (1, pz_is 1 2), (2, pz_ic (0) 3), (3, pz_is 2 4), (4, pz_il 2 5), (5, pz_ic (36) 7), (7, pz_if2 (fun x y => y ≤ x) (fun x y => ¬ y ≤ x) 25 10), (10, pz_il 1 11), (11, pz_al 0 12), (12, pz_get 5 2 15), (15, pz_il 2 16), (16, pz_iald 17), (17, pz_bin (fun x y => x + y) 18), (18, pz_is 1 19), (19, pz_inc 2 (1) 22), (22, pz_goto 4 25), (25, pz_il 1 26), (26, pz_ret)]
theorem SX7_allParts : pz_Is KX7_allParts (IX7_allParts) := ⟨pz_s_iconst (a := 0) (by decide +kernel) (by decide), pz_s_istore_n (a := 1) (by decide +kernel) rfl, pz_s_iconst (a := 0) (by decide +kernel) (by decide), pz_s_istore_n (a := 2) (by decide +kernel) rfl, pz_s_iload_n (a := 2) (by decide +kernel) rfl, pz_s_bipush (a := 36) (by decide +kernel) (by decide), pz_s_icmp_ge (off := 18) (by decide +kernel) (by decide), pz_s_iload_n (a := 1) (by decide +kernel) rfl, pz_s_aload_n (a := 0) (by decide +kernel) rfl, pz_s_get (q0 := (RX7, TX7, 14)) (by decide +kernel) rfl (by decide) wf_X7_18, pz_s_iload_n (a := 2) (by decide +kernel) rfl, pz_s_iald (by decide +kernel), pz_s_iadd (by decide +kernel), pz_s_istore_n (a := 1) (by decide +kernel) rfl, pz_s_iinc (a := 1) (by decide +kernel) (by decide), pz_s_goto (off := -18) (by decide +kernel) (by decide), pz_s_iload_n (a := 1) (by decide +kernel) rfl, pz_s_ireturn (by decide +kernel) rfl, trivial⟩
def IX7_allAte : List (Nat × pz_I) := [(0, pz_ic (0) 1), (1, pz_is 1 2), (2, pz_ic (0) 3), (3, pz_is 2 4), (4, pz_il 2 5), (5, pz_al 0 6), (6, pz_get 5 7 9), (9, pz_if2 (fun x y => y ≤ x) (fun x y => ¬ y ≤ x) 27 12), (12, pz_il 1 13), (13, pz_al 0 14), (14, pz_get 5 5 17), (17, pz_il 2 18), (18, pz_iald 19), (19, pz_bin (fun x y => x + y) 20), (20, pz_is 1 21), (21, pz_inc 2 (1) 24), (24, pz_goto 4 27), (27, pz_il 1 28), (28, pz_ret)]
theorem SX7_allAte : pz_Is KX7_allAte (IX7_allAte) := ⟨pz_s_iconst (a := 0) (by decide +kernel) (by decide), pz_s_istore_n (a := 1) (by decide +kernel) rfl, pz_s_iconst (a := 0) (by decide +kernel) (by decide), pz_s_istore_n (a := 2) (by decide +kernel) rfl, pz_s_iload_n (a := 2) (by decide +kernel) rfl, pz_s_aload_n (a := 0) (by decide +kernel) rfl, pz_s_get (q0 := (RX7, TX7, 14)) (by decide +kernel) rfl (by decide) wf_X7_47, pz_s_icmp_ge (off := 18) (by decide +kernel) (by decide), pz_s_iload_n (a := 1) (by decide +kernel) rfl, pz_s_aload_n (a := 0) (by decide +kernel) rfl, pz_s_get (q0 := (RX7, TX7, 14)) (by decide +kernel) rfl (by decide) wf_X7_27, pz_s_iload_n (a := 2) (by decide +kernel) rfl, pz_s_iald (by decide +kernel), pz_s_iadd (by decide +kernel), pz_s_istore_n (a := 1) (by decide +kernel) rfl, pz_s_iinc (a := 1) (by decide +kernel) (by decide), pz_s_goto (off := -20) (by decide +kernel) (by decide), pz_s_iload_n (a := 1) (by decide +kernel) rfl, pz_s_ireturn (by decide +kernel) rfl, trivial⟩
def IX7_wetCells : List (Nat × pz_I) := [(0, pz_ic (0) 1), (1, pz_is 1 2), (2, pz_ic (0) 3), (3, pz_is 2 4), (4, pz_il 2 5), (5, pz_ic (36) 7), (7, pz_if2 (fun x y => y ≤ x) (fun x y => ¬ y ≤ x) 28 10), (10, pz_al 0 11), (11, pz_get 5 2 14), (14, pz_il 2 15), (15, pz_iald 16), (16, pz_if0 (fun x => x ≤ 0) (fun x => ¬ x ≤ 0) 22 19), (19, pz_inc 1 (1) 22), (22, pz_inc 2 (1) 25), (25, pz_goto 4 28), (28, pz_il 1 29), (29, pz_ret)]
theorem SX7_wetCells : pz_Is KX7_wetCells (IX7_wetCells) := ⟨pz_s_iconst (a := 0) (by decide +kernel) (by decide), pz_s_istore_n (a := 1) (by decide +kernel) rfl, pz_s_iconst (a := 0) (by decide +kernel) (by decide), pz_s_istore_n (a := 2) (by decide +kernel) rfl, pz_s_iload_n (a := 2) (by decide +kernel) rfl, pz_s_bipush (a := 36) (by decide +kernel) (by decide), pz_s_icmp_ge (off := 21) (by decide +kernel) (by decide), pz_s_aload_n (a := 0) (by decide +kernel) rfl, pz_s_get (q0 := (RX7, TX7, 14)) (by decide +kernel) rfl (by decide) wf_X7_18, pz_s_iload_n (a := 2) (by decide +kernel) rfl, pz_s_iald (by decide +kernel), pz_s_if_le (off := 6) (by decide +kernel) (by decide), pz_s_iinc (a := 1) (by decide +kernel) (by decide), pz_s_iinc (a := 1) (by decide +kernel) (by decide), pz_s_goto (off := -21) (by decide +kernel) (by decide), pz_s_iload_n (a := 1) (by decide +kernel) rfl, pz_s_ireturn (by decide +kernel) rfl, trivial⟩
def IX7_pours : List (Nat × pz_I) := [(0, pz_al 0 1), (1, pz_get 5 13 4), (4, pz_ic (0) 5), (5, pz_al 0 6), (6, pz_get 5 12 9), (9, pz_cv0 yX1_counting KX1_counting 0 3 12), (12, pz_as 1 13), (13, pz_al 1 14), (14, pz_ifnn 26 17), (17, pz_al 0 18), (18, pz_get 5 6 21), (21, pz_ic (1) 22), (22, pz_iald 23), (23, pz_goto 53 26), (26, pz_al 0 27), (27, pz_get 5 13 30), (30, pz_al 1 31), (31, pz_al 0 32), (32, pz_get 5 6 35), (35, pz_ic (1) 36), (36, pz_iald 37), (37, pz_al 0 38), (38, pz_get 5 10 41), (41, pz_al 0 42), (42, pz_get 5 2 45), (45, pz_al 0 46), (46, pz_get 5 8 49), (49, pz_iald 50), (50, pz_cv0 yX1_given KX1_given 0 5 53), (53, pz_is 2 54), (54, pz_ic (0) 55), (55, pz_ic (99) 57), (57, pz_il 2 58), (58, pz_mb (fun x y => if y < x then y else x) 61), (61, pz_mb (fun x y => if x < y then y else x) 64), (64, pz_ret)]
theorem SX7_pours : pz_Is KX7_pours (IX7_pours) := ⟨pz_s_aload_n (a := 0) (by decide +kernel) rfl, pz_s_get (q0 := (RX7, TX7, 14)) (by decide +kernel) rfl (by decide) wf_X7_37, pz_s_iconst (a := 0) (by decide +kernel) (by decide), pz_s_aload_n (a := 0) (by decide +kernel) rfl, pz_s_get (q0 := (RX7, TX7, 14)) (by decide +kernel) rfl (by decide) wf_X7_60, pz_s_cv0 (q0 := (RX1, TX1, 2)) (by decide +kernel) ok_X7_69 rfl rfl (by decide) ⟨rfl, rfl⟩, pz_s_astore_n (a := 1) (by decide +kernel) rfl, pz_s_aload_n (a := 1) (by decide +kernel) rfl, pz_s_ifnn (off := 12) (by decide +kernel) (by decide), pz_s_aload_n (a := 0) (by decide +kernel) rfl, pz_s_get (q0 := (RX7, TX7, 14)) (by decide +kernel) rfl (by decide) wf_X7_30, pz_s_iconst (a := 1) (by decide +kernel) (by decide), pz_s_iald (by decide +kernel), pz_s_goto (off := 30) (by decide +kernel) (by decide), pz_s_aload_n (a := 0) (by decide +kernel) rfl, pz_s_get (q0 := (RX7, TX7, 14)) (by decide +kernel) rfl (by decide) wf_X7_37, pz_s_aload_n (a := 1) (by decide +kernel) rfl, pz_s_aload_n (a := 0) (by decide +kernel) rfl, pz_s_get (q0 := (RX7, TX7, 14)) (by decide +kernel) rfl (by decide) wf_X7_30, pz_s_iconst (a := 1) (by decide +kernel) (by decide), pz_s_iald (by decide +kernel), pz_s_aload_n (a := 0) (by decide +kernel) rfl, pz_s_get (q0 := (RX7, TX7, 14)) (by decide +kernel) rfl (by decide) wf_X7_57, pz_s_aload_n (a := 0) (by decide +kernel) rfl, pz_s_get (q0 := (RX7, TX7, 14)) (by decide +kernel) rfl (by decide) wf_X7_18, pz_s_aload_n (a := 0) (by decide +kernel) rfl, pz_s_get (q0 := (RX7, TX7, 14)) (by decide +kernel) rfl (by decide) wf_X7_50, pz_s_iald (by decide +kernel), pz_s_cv0 (q0 := (RX1, TX1, 2)) (by decide +kernel) ok_X7_73 rfl rfl (by decide) ⟨rfl, rfl⟩, pz_s_istore_n (a := 2) (by decide +kernel) rfl, pz_s_iconst (a := 0) (by decide +kernel) (by decide), pz_s_bipush (a := 99) (by decide +kernel) (by decide), pz_s_iload_n (a := 2) (by decide +kernel) rfl, pz_s_mmin (by decide +kernel) (by decide) wm_X7_77 wms_min wmi wmc_min, pz_s_mmax (by decide +kernel) (by decide) wm_X7_83 wms_max wmi wmc_max, pz_s_ireturn (by decide +kernel) rfl, trivial⟩
def IX7_draw : List (Nat × pz_I) := [(0, pz_al 0 1), (1, pz_al 0 2), (2, pz_get 5 11 5), (5, pz_ic (1103515245) 7), (7, pz_bin (fun x y => x * y) 8), (8, pz_ic (12345) 11), (11, pz_bin (fun x y => x + y) 12), (12, pz_puti 5 11 15), (15, pz_al 0 16), (16, pz_get 5 11 19), (19, pz_ic (8) 21), (21, pz_bin (fun x y => (x.toUInt32 >>> (y.toUInt32 &&& Int32.toUInt32 31)).toInt32) 22), (22, pz_ret)]
theorem SX7_draw : pz_Is KX7_draw (IX7_draw) := ⟨pz_s_aload_n (a := 0) (by decide +kernel) rfl, pz_s_aload_n (a := 0) (by decide +kernel) rfl, pz_s_get (q0 := (RX7, TX7, 14)) (by decide +kernel) rfl (by decide) wf_X7_33, pz_s_ldc (i := 86) (by decide +kernel) wc_X7_86, pz_s_imul (by decide +kernel), pz_s_sipush (a := 12345) (by decide +kernel) (by decide), pz_s_iadd (by decide +kernel), pz_s_puti (q0 := (RX7, TX7, 14)) (by decide +kernel) rfl (by decide) wf_X7_33 rfl (by decide +kernel), pz_s_aload_n (a := 0) (by decide +kernel) rfl, pz_s_get (q0 := (RX7, TX7, 14)) (by decide +kernel) rfl (by decide) wf_X7_33, pz_s_bipush (a := 8) (by decide +kernel) (by decide), pz_s_iushr (by decide +kernel), pz_s_ireturn (by decide +kernel) rfl, trivial⟩
def IX7_passes : List (Nat × pz_I) := [(0, pz_ic (0) 1), (1, pz_is 2 2), (2, pz_il 2 3), (3, pz_il 1 4), (4, pz_if2 (fun x y => y ≤ x) (fun x y => ¬ y ≤ x) 17 7), (7, pz_al 0 8), (8, pz_cv0 yX7_pass KX7_pass 5 1 11), (11, pz_inc 2 (1) 14), (14, pz_goto 2 17), (17, pz_vret)]
theorem SX7_passes : pz_Is KX7_passes (IX7_passes) := ⟨pz_s_iconst (a := 0) (by decide +kernel) (by decide), pz_s_istore_n (a := 2) (by decide +kernel) rfl, pz_s_iload_n (a := 2) (by decide +kernel) rfl, pz_s_iload_n (a := 1) (by decide +kernel) rfl, pz_s_icmp_ge (off := 13) (by decide +kernel) (by decide), pz_s_aload_n (a := 0) (by decide +kernel) rfl, pz_s_cv0 (q0 := (RX7, TX7, 14)) (by decide +kernel) ok_X7_87 rfl rfl (by decide) ⟨rfl, rfl⟩, pz_s_iinc (a := 1) (by decide +kernel) (by decide), pz_s_goto (off := -12) (by decide +kernel) (by decide), pz_s_vreturn (by decide +kernel) rfl, trivial⟩
def IX7_pass_0 : List (Nat × pz_I) := [(0, pz_al 0 1), (1, pz_get 5 9 4), (4, pz_if0 (fun x => x = 0) (fun x => ¬ x = 0) 23 7), (7, pz_al 0 8), (8, pz_get 5 2 11), (11, pz_al 0 12), (12, pz_get 5 8 15), (15, pz_dup2 16), (16, pz_iald 17), (17, pz_al 0 18), (18, pz_cv0 yX7_pours KX7_pours 5 1 21), (21, pz_bin (fun x y => x + y) 22), (22, pz_iast 23), (23, pz_ic (0) 24), (24, pz_is 1 25), (25, pz_il 1 26), (26, pz_ic (36) 28), (28, pz_if2 (fun x y => y ≤ x) (fun x y => ¬ y ≤ x) 42 31), (31, pz_al 0 32), (32, pz_il 1 33), (33, pz_cv0 yX7_flows KX7_flows 5 2 36), (36, pz_inc 1 (1) 39), (39, pz_goto 25 42), (42, pz_ic (0) 43), (43, pz_is 1 44), (44, pz_il 1 45), (45, pz_al 0 46), (46, pz_get 5 7 49), (49, pz_if2 (fun x y => y ≤ x) (fun x y => ¬ y ≤ x) 63 52), (52, pz_al 0 53), (53, pz_il 1 54), (54, pz_cv0 yX7_feasts KX7_feasts 5 2 57), (57, pz_inc 1 (1) 60), (60, pz_goto 44 63), (63, pz_al 0 64), (64, pz_cv0 yX7_miceEat KX7_miceEat 5 1 67), (67, pz_al 0 68), (68, pz_dup 69), (69, pz_get 5 10 72), (72, pz_ic (1) 73)]
theorem SX7_pass_0 : pz_Is KX7_pass (IX7_pass_0) := ⟨pz_s_aload_n (a := 0) (by decide +kernel) rfl, pz_s_get (q0 := (RX7, TX7, 14)) (by decide +kernel) rfl (by decide) wf_X7_53, pz_s_if_eq (off := 19) (by decide +kernel) (by decide), pz_s_aload_n (a := 0) (by decide +kernel) rfl, pz_s_get (q0 := (RX7, TX7, 14)) (by decide +kernel) rfl (by decide) wf_X7_18, pz_s_aload_n (a := 0) (by decide +kernel) rfl, pz_s_get (q0 := (RX7, TX7, 14)) (by decide +kernel) rfl (by decide) wf_X7_50, pz_s_dup2 (by decide +kernel), pz_s_iald (by decide +kernel), pz_s_aload_n (a := 0) (by decide +kernel) rfl, pz_s_cv0 (q0 := (RX7, TX7, 14)) (by decide +kernel) ok_X7_90 rfl rfl (by decide) ⟨rfl, rfl⟩, pz_s_iadd (by decide +kernel), pz_s_iast (by decide +kernel), pz_s_iconst (a := 0) (by decide +kernel) (by decide), pz_s_istore_n (a := 1) (by decide +kernel) rfl, pz_s_iload_n (a := 1) (by decide +kernel) rfl, pz_s_bipush (a := 36) (by decide +kernel) (by decide), pz_s_icmp_ge (off := 14) (by decide +kernel) (by decide), pz_s_aload_n (a := 0) (by decide +kernel) rfl, pz_s_iload_n (a := 1) (by decide +kernel) rfl, pz_s_cv0 (q0 := (RX7, TX7, 14)) (by decide +kernel) ok_X7_94 rfl rfl (by decide) ⟨rfl, rfl⟩, pz_s_iinc (a := 1) (by decide +kernel) (by decide), pz_s_goto (off := -14) (by decide +kernel) (by decide), pz_s_iconst (a := 0) (by decide +kernel) (by decide), pz_s_istore_n (a := 1) (by decide +kernel) rfl, pz_s_iload_n (a := 1) (by decide +kernel) rfl, pz_s_aload_n (a := 0) (by decide +kernel) rfl, pz_s_get (q0 := (RX7, TX7, 14)) (by decide +kernel) rfl (by decide) wf_X7_47, pz_s_icmp_ge (off := 14) (by decide +kernel) (by decide), pz_s_aload_n (a := 0) (by decide +kernel) rfl, pz_s_iload_n (a := 1) (by decide +kernel) rfl, pz_s_cv0 (q0 := (RX7, TX7, 14)) (by decide +kernel) ok_X7_98 rfl rfl (by decide) ⟨rfl, rfl⟩, pz_s_iinc (a := 1) (by decide +kernel) (by decide), pz_s_goto (off := -16) (by decide +kernel) (by decide), pz_s_aload_n (a := 0) (by decide +kernel) rfl, pz_s_cv0 (q0 := (RX7, TX7, 14)) (by decide +kernel) ok_X7_101 rfl rfl (by decide) ⟨rfl, rfl⟩, pz_s_aload_n (a := 0) (by decide +kernel) rfl, pz_s_dup (by decide +kernel), pz_s_get (q0 := (RX7, TX7, 14)) (by decide +kernel) rfl (by decide) wf_X7_57, pz_s_iconst (a := 1) (by decide +kernel) (by decide), trivial⟩
def IX7_pass_1 : List (Nat × pz_I) := [(73, pz_bin (fun x y => x + y) 74), (74, pz_puti 5 10 77), (77, pz_vret)]
theorem SX7_pass_1 : pz_Is KX7_pass (IX7_pass_1) := ⟨pz_s_iadd (by decide +kernel), pz_s_puti (q0 := (RX7, TX7, 14)) (by decide +kernel) rfl (by decide) wf_X7_57 rfl (by decide +kernel), pz_s_vreturn (by decide +kernel) rfl, trivial⟩
def IX7_pass : List (Nat × pz_I) := IX7_pass_0 ++ (IX7_pass_1)
theorem SX7_pass : pz_Is KX7_pass (IX7_pass) := pz_Is_app (SX7_pass_0) (SX7_pass_1)
def IX7_flows_0 : List (Nat × pz_I) := [(0, pz_al 0 1), (1, pz_get 5 2 4), (4, pz_il 1 5), (5, pz_iald 6), (6, pz_if0 (fun x => ¬ x = 0) (fun x => x = 0) 10 9), (9, pz_vret), (10, pz_il 1 11), (11, pz_is 2 12), (12, pz_ic (2147483647) 14), (14, pz_is 3 15), (15, pz_ic (0) 16), (16, pz_is 4 18), (18, pz_il 4 20), (20, pz_ic (4) 21), (21, pz_if2 (fun x y => y ≤ x) (fun x y => ¬ y ≤ x) 63 24), (24, pz_il 1 25), (25, pz_il 4 27), (27, pz_cs yX2_beside KX2_beside 2 30), (30, pz_is 5 32), (32, pz_il 5 34), (34, pz_if0 (fun x => x < 0) (fun x => ¬ x < 0) 57 37), (37, pz_al 0 38), (38, pz_il 5 40), (40, pz_cv0 yX7_level KX7_level 5 2 43), (43, pz_il 3 44), (44, pz_if2 (fun x y => y ≤ x) (fun x y => ¬ y ≤ x) 57 47), (47, pz_il 5 49), (49, pz_is 2 50), (50, pz_al 0 51), (51, pz_il 5 53), (53, pz_cv0 yX7_level KX7_level 5 2 56), (56, pz_is 3 57), (57, pz_inc 4 (1) 60), (60, pz_goto 18 63), (63, pz_al 0 64), (64, pz_il 1 65), (65, pz_cv0 yX7_level KX7_level 5 2 68), (68, pz_il 3 69), (69, pz_bin (fun x y => x - y) 70), (70, pz_is 4 72)]
theorem SX7_flows_0 : pz_Is KX7_flows (IX7_flows_0) := ⟨pz_s_aload_n (a := 0) (by decide +kernel) rfl, pz_s_get (q0 := (RX7, TX7, 14)) (by decide +kernel) rfl (by decide) wf_X7_18, pz_s_iload_n (a := 1) (by decide +kernel) rfl, pz_s_iald (by decide +kernel), pz_s_if_ne (off := 4) (by decide +kernel) (by decide), pz_s_vreturn (by decide +kernel) rfl, pz_s_iload_n (a := 1) (by decide +kernel) rfl, pz_s_istore_n (a := 2) (by decide +kernel) rfl, pz_s_ldc (i := 104) (by decide +kernel) wc_X7_104, pz_s_istore_n (a := 3) (by decide +kernel) rfl, pz_s_iconst (a := 0) (by decide +kernel) (by decide), pz_s_istore (by decide +kernel), pz_s_iload (by decide +kernel), pz_s_iconst (a := 4) (by decide +kernel) (by decide), pz_s_icmp_ge (off := 42) (by decide +kernel) (by decide), pz_s_iload_n (a := 1) (by decide +kernel) rfl, pz_s_iload (by decide +kernel), pz_s_cs (by decide +kernel) ok_X7_107 (by decide) ⟨rfl, rfl⟩, pz_s_istore (by decide +kernel), pz_s_iload (by decide +kernel), pz_s_if_lt (off := 23) (by decide +kernel) (by decide), pz_s_aload_n (a := 0) (by decide +kernel) rfl, pz_s_iload (by decide +kernel), pz_s_cv0 (q0 := (RX7, TX7, 14)) (by decide +kernel) ok_X7_110 rfl rfl (by decide) ⟨rfl, rfl⟩, pz_s_iload_n (a := 3) (by decide +kernel) rfl, pz_s_icmp_ge (off := 13) (by decide +kernel) (by decide), pz_s_iload (by decide +kernel), pz_s_istore_n (a := 2) (by decide +kernel) rfl, pz_s_aload_n (a := 0) (by decide +kernel) rfl, pz_s_iload (by decide +kernel), pz_s_cv0 (q0 := (RX7, TX7, 14)) (by decide +kernel) ok_X7_110 rfl rfl (by decide) ⟨rfl, rfl⟩, pz_s_istore_n (a := 3) (by decide +kernel) rfl, pz_s_iinc (a := 1) (by decide +kernel) (by decide), pz_s_goto (off := -42) (by decide +kernel) (by decide), pz_s_aload_n (a := 0) (by decide +kernel) rfl, pz_s_iload_n (a := 1) (by decide +kernel) rfl, pz_s_cv0 (q0 := (RX7, TX7, 14)) (by decide +kernel) ok_X7_110 rfl rfl (by decide) ⟨rfl, rfl⟩, pz_s_iload_n (a := 3) (by decide +kernel) rfl, pz_s_isub (by decide +kernel), pz_s_istore (by decide +kernel), trivial⟩
def IX7_flows_1 : List (Nat × pz_I) := [(72, pz_il 4 74), (74, pz_ic (1) 75), (75, pz_if2 (fun x y => x ≤ y) (fun x y => ¬ x ≤ y) 124 78), (78, pz_al 0 79), (79, pz_get 5 2 82), (82, pz_il 1 83), (83, pz_iald 84), (84, pz_il 4 86), (86, pz_ic (2) 87), (87, pz_div (fun x y => x / y) 88), (88, pz_ic (1) 89), (89, pz_al 0 90), (90, pz_get 5 6 93), (93, pz_ic (2) 94), (94, pz_iald 95), (95, pz_bin (fun x y => x + y) 96), (96, pz_div (fun x y => x / y) 97), (97, pz_mb (fun x y => if y < x then y else x) 100), (100, pz_is 5 102), (102, pz_al 0 103), (103, pz_get 5 2 106), (106, pz_il 1 107), (107, pz_dup2 108), (108, pz_iald 109), (109, pz_il 5 111), (111, pz_bin (fun x y => x - y) 112), (112, pz_iast 113), (113, pz_al 0 114), (114, pz_get 5 2 117), (117, pz_il 2 118), (118, pz_dup2 119), (119, pz_iald 120), (120, pz_il 5 122), (122, pz_bin (fun x y => x + y) 123), (123, pz_iast 124), (124, pz_vret)]
theorem SX7_flows_1 : pz_Is KX7_flows (IX7_flows_1) := ⟨pz_s_iload (by decide +kernel), pz_s_iconst (a := 1) (by decide +kernel) (by decide), pz_s_icmp_le (off := 49) (by decide +kernel) (by decide), pz_s_aload_n (a := 0) (by decide +kernel) rfl, pz_s_get (q0 := (RX7, TX7, 14)) (by decide +kernel) rfl (by decide) wf_X7_18, pz_s_iload_n (a := 1) (by decide +kernel) rfl, pz_s_iald (by decide +kernel), pz_s_iload (by decide +kernel), pz_s_iconst (a := 2) (by decide +kernel) (by decide), pz_s_idiv (by decide +kernel), pz_s_iconst (a := 1) (by decide +kernel) (by decide), pz_s_aload_n (a := 0) (by decide +kernel) rfl, pz_s_get (q0 := (RX7, TX7, 14)) (by decide +kernel) rfl (by decide) wf_X7_30, pz_s_iconst (a := 2) (by decide +kernel) (by decide), pz_s_iald (by decide +kernel), pz_s_iadd (by decide +kernel), pz_s_idiv (by decide +kernel), pz_s_mmin (by decide +kernel) (by decide) wm_X7_77 wms_min wmi wmc_min, pz_s_istore (by decide +kernel), pz_s_aload_n (a := 0) (by decide +kernel) rfl, pz_s_get (q0 := (RX7, TX7, 14)) (by decide +kernel) rfl (by decide) wf_X7_18, pz_s_iload_n (a := 1) (by decide +kernel) rfl, pz_s_dup2 (by decide +kernel), pz_s_iald (by decide +kernel), pz_s_iload (by decide +kernel), pz_s_isub (by decide +kernel), pz_s_iast (by decide +kernel), pz_s_aload_n (a := 0) (by decide +kernel) rfl, pz_s_get (q0 := (RX7, TX7, 14)) (by decide +kernel) rfl (by decide) wf_X7_18, pz_s_iload_n (a := 2) (by decide +kernel) rfl, pz_s_dup2 (by decide +kernel), pz_s_iald (by decide +kernel), pz_s_iload (by decide +kernel), pz_s_iadd (by decide +kernel), pz_s_iast (by decide +kernel), pz_s_vreturn (by decide +kernel) rfl, trivial⟩
def IX7_flows : List (Nat × pz_I) := IX7_flows_0 ++ (IX7_flows_1)
theorem SX7_flows : pz_Is KX7_flows (IX7_flows) := pz_Is_app (SX7_flows_0) (SX7_flows_1)
def IX7_feasts_0 : List (Nat × pz_I) := [(0, pz_al 0 1), (1, pz_get 5 4 4), (4, pz_il 1 5), (5, pz_iald 6), (6, pz_is 2 7), (7, pz_al 0 8), (8, pz_get 5 2 11), (11, pz_il 2 12), (12, pz_iald 13), (13, pz_al 0 14), (14, pz_get 5 3 17), (17, pz_il 1 18), (18, pz_iald 19), (19, pz_al 0 20), (20, pz_get 5 2 23), (23, pz_il 2 24), (24, pz_iald 25), (25, pz_cs yX0_eats KX0_eats 2 28), (28, pz_mb (fun x y => if y < x then y else x) 31), (31, pz_is 3 32), (32, pz_al 0 33), (33, pz_get 5 2 36), (36, pz_il 2 37), (37, pz_dup2 38), (38, pz_iald 39), (39, pz_il 3 40), (40, pz_bin (fun x y => x - y) 41), (41, pz_iast 42), (42, pz_al 0 43), (43, pz_get 5 5 46), (46, pz_il 1 47), (47, pz_dup2 48), (48, pz_iald 49), (49, pz_il 3 50), (50, pz_bin (fun x y => x + y) 51), (51, pz_iast 52), (52, pz_al 0 53), (53, pz_get 5 2 56), (56, pz_il 2 57), (57, pz_iald 58)]
theorem SX7_feasts_0 : pz_Is KX7_feasts (IX7_feasts_0) := ⟨pz_s_aload_n (a := 0) (by decide +kernel) rfl, pz_s_get (q0 := (RX7, TX7, 14)) (by decide +kernel) rfl (by decide) wf_X7_24, pz_s_iload_n (a := 1) (by decide +kernel) rfl, pz_s_iald (by decide +kernel), pz_s_istore_n (a := 2) (by decide +kernel) rfl, pz_s_aload_n (a := 0) (by decide +kernel) rfl, pz_s_get (q0 := (RX7, TX7, 14)) (by decide +kernel) rfl (by decide) wf_X7_18, pz_s_iload_n (a := 2) (by decide +kernel) rfl, pz_s_iald (by decide +kernel), pz_s_aload_n (a := 0) (by decide +kernel) rfl, pz_s_get (q0 := (RX7, TX7, 14)) (by decide +kernel) rfl (by decide) wf_X7_21, pz_s_iload_n (a := 1) (by decide +kernel) rfl, pz_s_iald (by decide +kernel), pz_s_aload_n (a := 0) (by decide +kernel) rfl, pz_s_get (q0 := (RX7, TX7, 14)) (by decide +kernel) rfl (by decide) wf_X7_18, pz_s_iload_n (a := 2) (by decide +kernel) rfl, pz_s_iald (by decide +kernel), pz_s_cs (by decide +kernel) ok_X7_114 (by decide) ⟨rfl, rfl⟩, pz_s_mmin (by decide +kernel) (by decide) wm_X7_77 wms_min wmi wmc_min, pz_s_istore_n (a := 3) (by decide +kernel) rfl, pz_s_aload_n (a := 0) (by decide +kernel) rfl, pz_s_get (q0 := (RX7, TX7, 14)) (by decide +kernel) rfl (by decide) wf_X7_18, pz_s_iload_n (a := 2) (by decide +kernel) rfl, pz_s_dup2 (by decide +kernel), pz_s_iald (by decide +kernel), pz_s_iload_n (a := 3) (by decide +kernel) rfl, pz_s_isub (by decide +kernel), pz_s_iast (by decide +kernel), pz_s_aload_n (a := 0) (by decide +kernel) rfl, pz_s_get (q0 := (RX7, TX7, 14)) (by decide +kernel) rfl (by decide) wf_X7_27, pz_s_iload_n (a := 1) (by decide +kernel) rfl, pz_s_dup2 (by decide +kernel), pz_s_iald (by decide +kernel), pz_s_iload_n (a := 3) (by decide +kernel) rfl, pz_s_iadd (by decide +kernel), pz_s_iast (by decide +kernel), pz_s_aload_n (a := 0) (by decide +kernel) rfl, pz_s_get (q0 := (RX7, TX7, 14)) (by decide +kernel) rfl (by decide) wf_X7_18, pz_s_iload_n (a := 2) (by decide +kernel) rfl, pz_s_iald (by decide +kernel), trivial⟩
def IX7_feasts_1 : List (Nat × pz_I) := [(58, pz_if0 (fun x => ¬ x = 0) (fun x => x = 0) 81 61), (61, pz_al 0 62), (62, pz_get 5 4 65), (65, pz_il 1 66), (66, pz_al 0 67), (67, pz_il 2 68), (68, pz_al 0 69), (69, pz_get 5 3 72), (72, pz_il 1 73), (73, pz_iald 74), (74, pz_cs yX0_wades KX0_wades 1 77), (77, pz_cv0 yX7_fullestBeside KX7_fullestBeside 5 3 80), (80, pz_iast 81), (81, pz_vret)]
theorem SX7_feasts_1 : pz_Is KX7_feasts (IX7_feasts_1) := ⟨pz_s_if_ne (off := 23) (by decide +kernel) (by decide), pz_s_aload_n (a := 0) (by decide +kernel) rfl, pz_s_get (q0 := (RX7, TX7, 14)) (by decide +kernel) rfl (by decide) wf_X7_24, pz_s_iload_n (a := 1) (by decide +kernel) rfl, pz_s_aload_n (a := 0) (by decide +kernel) rfl, pz_s_iload_n (a := 2) (by decide +kernel) rfl, pz_s_aload_n (a := 0) (by decide +kernel) rfl, pz_s_get (q0 := (RX7, TX7, 14)) (by decide +kernel) rfl (by decide) wf_X7_21, pz_s_iload_n (a := 1) (by decide +kernel) rfl, pz_s_iald (by decide +kernel), pz_s_cs (by decide +kernel) ok_X7_119 (by decide) ⟨rfl, rfl⟩, pz_s_cv0 (q0 := (RX7, TX7, 14)) (by decide +kernel) ok_X7_122 rfl rfl (by decide) ⟨rfl, rfl⟩, pz_s_iast (by decide +kernel), pz_s_vreturn (by decide +kernel) rfl, trivial⟩
def IX7_feasts : List (Nat × pz_I) := IX7_feasts_0 ++ (IX7_feasts_1)
theorem SX7_feasts : pz_Is KX7_feasts (IX7_feasts) := pz_Is_app (SX7_feasts_0) (SX7_feasts_1)
def IX7_fullestBeside : List (Nat × pz_I) := [(0, pz_il 1 1), (1, pz_is 3 2), (2, pz_ic (0) 3), (3, pz_is 4 5), (5, pz_ic (0) 6), (6, pz_is 5 8), (8, pz_il 5 10), (10, pz_ic (4) 11), (11, pz_if2 (fun x y => y ≤ x) (fun x y => ¬ y ≤ x) 68 14), (14, pz_il 1 15), (15, pz_il 5 17), (17, pz_cs yX2_beside KX2_beside 2 20), (20, pz_is 6 22), (22, pz_il 6 24), (24, pz_if0 (fun x => x < 0) (fun x => ¬ x < 0) 62 27), (27, pz_al 0 28), (28, pz_get 5 2 31), (31, pz_il 6 33), (33, pz_iald 34), (34, pz_il 4 36), (36, pz_if2 (fun x y => x ≤ y) (fun x y => ¬ x ≤ y) 62 39), (39, pz_al 0 40), (40, pz_get 5 2 43), (43, pz_il 6 45), (45, pz_iald 46), (46, pz_il 2 47), (47, pz_if2 (fun x y => y < x) (fun x y => ¬ y < x) 62 50), (50, pz_il 6 52), (52, pz_is 3 53), (53, pz_al 0 54), (54, pz_get 5 2 57), (57, pz_il 6 59), (59, pz_iald 60), (60, pz_is 4 62), (62, pz_inc 5 (1) 65), (65, pz_goto 8 68), (68, pz_il 3 69), (69, pz_ret)]
theorem SX7_fullestBeside : pz_Is KX7_fullestBeside (IX7_fullestBeside) := ⟨pz_s_iload_n (a := 1) (by decide +kernel) rfl, pz_s_istore_n (a := 3) (by decide +kernel) rfl, pz_s_iconst (a := 0) (by decide +kernel) (by decide), pz_s_istore (by decide +kernel), pz_s_iconst (a := 0) (by decide +kernel) (by decide), pz_s_istore (by decide +kernel), pz_s_iload (by decide +kernel), pz_s_iconst (a := 4) (by decide +kernel) (by decide), pz_s_icmp_ge (off := 57) (by decide +kernel) (by decide), pz_s_iload_n (a := 1) (by decide +kernel) rfl, pz_s_iload (by decide +kernel), pz_s_cs (by decide +kernel) ok_X7_107 (by decide) ⟨rfl, rfl⟩, pz_s_istore (by decide +kernel), pz_s_iload (by decide +kernel), pz_s_if_lt (off := 38) (by decide +kernel) (by decide), pz_s_aload_n (a := 0) (by decide +kernel) rfl, pz_s_get (q0 := (RX7, TX7, 14)) (by decide +kernel) rfl (by decide) wf_X7_18, pz_s_iload (by decide +kernel), pz_s_iald (by decide +kernel), pz_s_iload (by decide +kernel), pz_s_icmp_le (off := 26) (by decide +kernel) (by decide), pz_s_aload_n (a := 0) (by decide +kernel) rfl, pz_s_get (q0 := (RX7, TX7, 14)) (by decide +kernel) rfl (by decide) wf_X7_18, pz_s_iload (by decide +kernel), pz_s_iald (by decide +kernel), pz_s_iload_n (a := 2) (by decide +kernel) rfl, pz_s_icmp_gt (off := 15) (by decide +kernel) (by decide), pz_s_iload (by decide +kernel), pz_s_istore_n (a := 3) (by decide +kernel) rfl, pz_s_aload_n (a := 0) (by decide +kernel) rfl, pz_s_get (q0 := (RX7, TX7, 14)) (by decide +kernel) rfl (by decide) wf_X7_18, pz_s_iload (by decide +kernel), pz_s_iald (by decide +kernel), pz_s_istore (by decide +kernel), pz_s_iinc (a := 1) (by decide +kernel) (by decide), pz_s_goto (off := -57) (by decide +kernel) (by decide), pz_s_iload_n (a := 3) (by decide +kernel) rfl, pz_s_ireturn (by decide +kernel) rfl, trivial⟩
def IX7_miceEat : List (Nat × pz_I) := [(0, pz_al 0 1), (1, pz_cv0 yX7_draw KX7_draw 5 1 4), (4, pz_ic (100) 6), (6, pz_div (fun x y => x - x / y * y) 7), (7, pz_al 0 8), (8, pz_get 5 6 11), (11, pz_ic (3) 12), (12, pz_iald 13), (13, pz_if2 (fun x y => y ≤ x) (fun x y => ¬ y ≤ x) 42 16), (16, pz_al 0 17), (17, pz_cv0 yX7_draw KX7_draw 5 1 20), (20, pz_ic (36) 22), (22, pz_div (fun x y => x - x / y * y) 23), (23, pz_is 1 24), (24, pz_al 0 25), (25, pz_get 5 1 28), (28, pz_il 1 29), (29, pz_ic (0) 30), (30, pz_al 0 31), (31, pz_get 5 1 34), (34, pz_il 1 35), (35, pz_iald 36), (36, pz_ic (1) 37), (37, pz_bin (fun x y => x - y) 38), (38, pz_mb (fun x y => if x < y then y else x) 41), (41, pz_iast 42), (42, pz_vret)]
theorem SX7_miceEat : pz_Is KX7_miceEat (IX7_miceEat) := ⟨pz_s_aload_n (a := 0) (by decide +kernel) rfl, pz_s_cv0 (q0 := (RX7, TX7, 14)) (by decide +kernel) ok_X7_125 rfl rfl (by decide) ⟨rfl, rfl⟩, pz_s_bipush (a := 100) (by decide +kernel) (by decide), pz_s_irem (by decide +kernel), pz_s_aload_n (a := 0) (by decide +kernel) rfl, pz_s_get (q0 := (RX7, TX7, 14)) (by decide +kernel) rfl (by decide) wf_X7_30, pz_s_iconst (a := 3) (by decide +kernel) (by decide), pz_s_iald (by decide +kernel), pz_s_icmp_ge (off := 29) (by decide +kernel) (by decide), pz_s_aload_n (a := 0) (by decide +kernel) rfl, pz_s_cv0 (q0 := (RX7, TX7, 14)) (by decide +kernel) ok_X7_125 rfl rfl (by decide) ⟨rfl, rfl⟩, pz_s_bipush (a := 36) (by decide +kernel) (by decide), pz_s_irem (by decide +kernel), pz_s_istore_n (a := 1) (by decide +kernel) rfl, pz_s_aload_n (a := 0) (by decide +kernel) rfl, pz_s_get (q0 := (RX7, TX7, 14)) (by decide +kernel) rfl (by decide) wf_X7_15, pz_s_iload_n (a := 1) (by decide +kernel) rfl, pz_s_iconst (a := 0) (by decide +kernel) (by decide), pz_s_aload_n (a := 0) (by decide +kernel) rfl, pz_s_get (q0 := (RX7, TX7, 14)) (by decide +kernel) rfl (by decide) wf_X7_15, pz_s_iload_n (a := 1) (by decide +kernel) rfl, pz_s_iald (by decide +kernel), pz_s_iconst (a := 1) (by decide +kernel) (by decide), pz_s_isub (by decide +kernel), pz_s_mmax (by decide +kernel) (by decide) wm_X7_83 wms_max wmi wmc_max, pz_s_iast (by decide +kernel), pz_s_vreturn (by decide +kernel) rfl, trivial⟩
def IX8_init : List (Nat × pz_I) := [(0, pz_al 0 1), (1, pz_oinit 4), (4, pz_al 0 5), (5, pz_ic (36) 7), (7, pz_newa 2 72 0 36 9), (9, pz_puta 6 0 12), (12, pz_al 0 13), (13, pz_ic (36) 15), (15, pz_newa 2 72 0 36 17), (17, pz_puta 6 1 20), (20, pz_vret)]
theorem SX8_init : pz_Is KX8_init (IX8_init) := ⟨pz_s_aload_n (a := 0) (by decide +kernel) rfl, pz_s_oinit (by decide +kernel) (by decide) wm_X8_3 woi1 woi2, pz_s_aload_n (a := 0) (by decide +kernel) rfl, pz_s_bipush (a := 36) (by decide +kernel) (by decide), pz_s_newi (by decide +kernel) (by decide) wa_int, pz_s_putaFA (t9 := .int) (q0 := (RX8, TX8, 2)) (by decide +kernel) rfl (by decide) wf_X8_9 rfl (by decide +kernel) rfl rfl, pz_s_aload_n (a := 0) (by decide +kernel) rfl, pz_s_bipush (a := 36) (by decide +kernel) (by decide), pz_s_newi (by decide +kernel) (by decide) wa_int, pz_s_putaFA (t9 := .int) (q0 := (RX8, TX8, 2)) (by decide +kernel) rfl (by decide) wf_X8_15 rfl (by decide +kernel) rfl rfl, pz_s_vreturn (by decide +kernel) rfl, trivial⟩
def IX8_fewest_0 : List (Nat × pz_I) := [(0, pz_ic (0) 1), (1, pz_is 5 3), (3, pz_il 5 5), (5, pz_ic (36) 7), (7, pz_if2 (fun x y => y ≤ x) (fun x y => ¬ y ≤ x) 25 10), (10, pz_al 0 11), (11, pz_get 6 0 14), (14, pz_il 5 16), (16, pz_ic (-1000000005) 18), (18, pz_iast 19), (19, pz_inc 5 (1) 22), (22, pz_goto 3 25), (25, pz_al 0 26), (26, pz_get 6 0 29), (29, pz_il 2 30), (30, pz_ic (0) 31), (31, pz_iast 32), (32, pz_al 0 33), (33, pz_get 6 1 36), (36, pz_ic (0) 37), (37, pz_il 2 38), (38, pz_iast 39), (39, pz_ic (1) 40), (40, pz_is 5 42), (42, pz_ic (0) 43), (43, pz_is 6 45), (45, pz_il 6 47), (47, pz_il 5 49), (49, pz_if2 (fun x y => y ≤ x) (fun x y => ¬ y ≤ x) 171 52), (52, pz_il 6 54), (54, pz_ic (36) 56), (56, pz_if2 (fun x y => y ≤ x) (fun x y => ¬ y ≤ x) 171 59), (59, pz_al 0 60), (60, pz_get 6 0 63), (63, pz_il 3 64), (64, pz_iald 65), (65, pz_ic (-1000000005) 67), (67, pz_if2 (fun x y => ¬ x = y) (fun x y => x = y) 171 70), (70, pz_ic (0) 71), (71, pz_is 7 73)]
theorem SX8_fewest_0 : pz_Is KX8_fewest (IX8_fewest_0) := ⟨pz_s_iconst (a := 0) (by decide +kernel) (by decide), pz_s_istore (by decide +kernel), pz_s_iload (by decide +kernel), pz_s_bipush (a := 36) (by decide +kernel) (by decide), pz_s_icmp_ge (off := 18) (by decide +kernel) (by decide), pz_s_aload_n (a := 0) (by decide +kernel) rfl, pz_s_get (q0 := (RX8, TX8, 2)) (by decide +kernel) rfl (by decide) wf_X8_9, pz_s_iload (by decide +kernel), pz_s_ldc (i := 18) (by decide +kernel) wc_X8_18, pz_s_iast (by decide +kernel), pz_s_iinc (a := 1) (by decide +kernel) (by decide), pz_s_goto (off := -19) (by decide +kernel) (by decide), pz_s_aload_n (a := 0) (by decide +kernel) rfl, pz_s_get (q0 := (RX8, TX8, 2)) (by decide +kernel) rfl (by decide) wf_X8_9, pz_s_iload_n (a := 2) (by decide +kernel) rfl, pz_s_iconst (a := 0) (by decide +kernel) (by decide), pz_s_iast (by decide +kernel), pz_s_aload_n (a := 0) (by decide +kernel) rfl, pz_s_get (q0 := (RX8, TX8, 2)) (by decide +kernel) rfl (by decide) wf_X8_15, pz_s_iconst (a := 0) (by decide +kernel) (by decide), pz_s_iload_n (a := 2) (by decide +kernel) rfl, pz_s_iast (by decide +kernel), pz_s_iconst (a := 1) (by decide +kernel) (by decide), pz_s_istore (by decide +kernel), pz_s_iconst (a := 0) (by decide +kernel) (by decide), pz_s_istore (by decide +kernel), pz_s_iload (by decide +kernel), pz_s_iload (by decide +kernel), pz_s_icmp_ge (off := 122) (by decide +kernel) (by decide), pz_s_iload (by decide +kernel), pz_s_bipush (a := 36) (by decide +kernel) (by decide), pz_s_icmp_ge (off := 115) (by decide +kernel) (by decide), pz_s_aload_n (a := 0) (by decide +kernel) rfl, pz_s_get (q0 := (RX8, TX8, 2)) (by decide +kernel) rfl (by decide) wf_X8_9, pz_s_iload_n (a := 3) (by decide +kernel) rfl, pz_s_iald (by decide +kernel), pz_s_ldc (i := 18) (by decide +kernel) wc_X8_18, pz_s_icmp_ne (off := 104) (by decide +kernel) (by decide), pz_s_iconst (a := 0) (by decide +kernel) (by decide), pz_s_istore (by decide +kernel), trivial⟩
def IX8_fewest_1 : List (Nat × pz_I) := [(73, pz_il 7 75), (75, pz_ic (4) 76), (76, pz_if2 (fun x y => y ≤ x) (fun x y => ¬ y ≤ x) 165 79), (79, pz_al 0 80), (80, pz_get 6 1 83), (83, pz_il 6 85), (85, pz_iald 86), (86, pz_il 7 88), (88, pz_cs yX2_beside KX2_beside 2 91), (91, pz_is 8 93), (93, pz_il 8 95), (95, pz_if0 (fun x => x < 0) (fun x => ¬ x < 0) 159 98), (98, pz_al 0 99), (99, pz_get 6 0 102), (102, pz_il 8 104), (104, pz_iald 105), (105, pz_ic (-1000000005) 107), (107, pz_if2 (fun x y => ¬ x = y) (fun x y => x = y) 159 110), (110, pz_al 1 111), (111, pz_il 8 113), (113, pz_iald 114), (114, pz_il 4 116), (116, pz_if2 (fun x y => y < x) (fun x y => ¬ y < x) 159 119), (119, pz_il 5 121), (121, pz_ic (36) 123), (123, pz_if2 (fun x y => y ≤ x) (fun x y => ¬ y ≤ x) 159 126), (126, pz_al 0 127), (127, pz_get 6 0 130), (130, pz_il 8 132), (132, pz_al 0 133), (133, pz_get 6 0 136), (136, pz_al 0 137), (137, pz_get 6 1 140), (140, pz_il 6 142), (142, pz_iald 143), (143, pz_iald 144), (144, pz_ic (1) 145), (145, pz_bin (fun x y => x + y) 146), (146, pz_iast 147), (147, pz_al 0 148)]
theorem SX8_fewest_1 : pz_Is KX8_fewest (IX8_fewest_1) := ⟨pz_s_iload (by decide +kernel), pz_s_iconst (a := 4) (by decide +kernel) (by decide), pz_s_icmp_ge (off := 89) (by decide +kernel) (by decide), pz_s_aload_n (a := 0) (by decide +kernel) rfl, pz_s_get (q0 := (RX8, TX8, 2)) (by decide +kernel) rfl (by decide) wf_X8_15, pz_s_iload (by decide +kernel), pz_s_iald (by decide +kernel), pz_s_iload (by decide +kernel), pz_s_cs (by decide +kernel) ok_X8_21 (by decide) ⟨rfl, rfl⟩, pz_s_istore (by decide +kernel), pz_s_iload (by decide +kernel), pz_s_if_lt (off := 64) (by decide +kernel) (by decide), pz_s_aload_n (a := 0) (by decide +kernel) rfl, pz_s_get (q0 := (RX8, TX8, 2)) (by decide +kernel) rfl (by decide) wf_X8_9, pz_s_iload (by decide +kernel), pz_s_iald (by decide +kernel), pz_s_ldc (i := 18) (by decide +kernel) wc_X8_18, pz_s_icmp_ne (off := 52) (by decide +kernel) (by decide), pz_s_aload_n (a := 1) (by decide +kernel) rfl, pz_s_iload (by decide +kernel), pz_s_iald (by decide +kernel), pz_s_iload (by decide +kernel), pz_s_icmp_gt (off := 43) (by decide +kernel) (by decide), pz_s_iload (by decide +kernel), pz_s_bipush (a := 36) (by decide +kernel) (by decide), pz_s_icmp_ge (off := 36) (by decide +kernel) (by decide), pz_s_aload_n (a := 0) (by decide +kernel) rfl, pz_s_get (q0 := (RX8, TX8, 2)) (by decide +kernel) rfl (by decide) wf_X8_9, pz_s_iload (by decide +kernel), pz_s_aload_n (a := 0) (by decide +kernel) rfl, pz_s_get (q0 := (RX8, TX8, 2)) (by decide +kernel) rfl (by decide) wf_X8_9, pz_s_aload_n (a := 0) (by decide +kernel) rfl, pz_s_get (q0 := (RX8, TX8, 2)) (by decide +kernel) rfl (by decide) wf_X8_15, pz_s_iload (by decide +kernel), pz_s_iald (by decide +kernel), pz_s_iald (by decide +kernel), pz_s_iconst (a := 1) (by decide +kernel) (by decide), pz_s_iadd (by decide +kernel), pz_s_iast (by decide +kernel), pz_s_aload_n (a := 0) (by decide +kernel) rfl, trivial⟩
def IX8_fewest_2 : List (Nat × pz_I) := [(148, pz_get 6 1 151), (151, pz_il 5 153), (153, pz_il 8 155), (155, pz_iast 156), (156, pz_inc 5 (1) 159), (159, pz_inc 7 (1) 162), (162, pz_goto 73 165), (165, pz_inc 6 (1) 168), (168, pz_goto 45 171), (171, pz_al 0 172), (172, pz_get 6 0 175), (175, pz_il 3 176), (176, pz_iald 177), (177, pz_ret)]
theorem SX8_fewest_2 : pz_Is KX8_fewest (IX8_fewest_2) := ⟨pz_s_get (q0 := (RX8, TX8, 2)) (by decide +kernel) rfl (by decide) wf_X8_15, pz_s_iload (by decide +kernel), pz_s_iload (by decide +kernel), pz_s_iast (by decide +kernel), pz_s_iinc (a := 1) (by decide +kernel) (by decide), pz_s_iinc (a := 1) (by decide +kernel) (by decide), pz_s_goto (off := -89) (by decide +kernel) (by decide), pz_s_iinc (a := 1) (by decide +kernel) (by decide), pz_s_goto (off := -123) (by decide +kernel) (by decide), pz_s_aload_n (a := 0) (by decide +kernel) rfl, pz_s_get (q0 := (RX8, TX8, 2)) (by decide +kernel) rfl (by decide) wf_X8_9, pz_s_iload_n (a := 3) (by decide +kernel) rfl, pz_s_iald (by decide +kernel), pz_s_ireturn (by decide +kernel) rfl, trivial⟩
def IX8_fewest : List (Nat × pz_I) := IX8_fewest_0 ++ (IX8_fewest_1 ++ (IX8_fewest_2))
theorem SX8_fewest : pz_Is KX8_fewest (IX8_fewest) := pz_Is_app (SX8_fewest_0) (pz_Is_app (SX8_fewest_1) (SX8_fewest_2))
end
