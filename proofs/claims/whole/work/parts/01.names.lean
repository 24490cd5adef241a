/-- a private method of a class that the tables say can be made, by its rows of tables_1 -/
def lw_okq (q : MethodName × Nat) : Prop := (q.1.cls ≠ "java/lang/invoke/MethodHandle" ∧ q.1.cls ≠ "java/lang/invoke/VarHandle") ∧ Cond.instantiable q.1.cls q.2 ∈ tables_1 ∧ Cond.privateMethod q.1 ∈ tables_1 ∧ Cond.instanceMethod q.1 ∈ tables_1
theorem lw_p0 : lw_okq (⟨"LittlePot$Town", "flows", "(I)V"⟩, 14) := ⟨⟨by decide +kernel, by decide +kernel⟩, List.mem_of_getElem? (i := 44) (by decide +kernel), List.mem_of_getElem? (i := 418) (by decide +kernel), List.mem_of_getElem? (i := 419) (by decide +kernel)⟩
theorem lw_p1 : lw_okq (⟨"LittlePot$Town", "feasts", "(I)V"⟩, 14) := ⟨⟨by decide +kernel, by decide +kernel⟩, List.mem_of_getElem? (i := 44) (by decide +kernel), List.mem_of_getElem? (i := 429) (by decide +kernel), List.mem_of_getElem? (i := 430) (by decide +kernel)⟩
theorem lw_p2 : lw_okq (⟨"LittlePot$Town", "fullestBeside", "(II)I"⟩, 14) := ⟨⟨by decide +kernel, by decide +kernel⟩, List.mem_of_getElem? (i := 44) (by decide +kernel), List.mem_of_getElem? (i := 435) (by decide +kernel), List.mem_of_getElem? (i := 436) (by decide +kernel)⟩
theorem lw_p3 : lw_okq (⟨"LittlePot$Town", "miceEat", "()V"⟩, 14) := ⟨⟨by decide +kernel, by decide +kernel⟩, List.mem_of_getElem? (i := 44) (by decide +kernel), List.mem_of_getElem? (i := 439) (by decide +kernel), List.mem_of_getElem? (i := 440) (by decide +kernel)⟩
theorem lw_p4 : lw_okq (⟨"LittlePot$Reader", "goesOn", "()V"⟩, 8) := ⟨⟨by decide +kernel, by decide +kernel⟩, List.mem_of_getElem? (i := 106) (by decide +kernel), List.mem_of_getElem? (i := 551) (by decide +kernel), List.mem_of_getElem? (i := 552) (by decide +kernel)⟩
theorem lw_p5 : lw_okq (⟨"LittlePot$Reader", "isLetter", "(I)Z"⟩, 8) := ⟨⟨by decide +kernel, by decide +kernel⟩, List.mem_of_getElem? (i := 106) (by decide +kernel), List.mem_of_getElem? (i := 555) (by decide +kernel), List.mem_of_getElem? (i := 556) (by decide +kernel)⟩
theorem lw_p6 : lw_okq (⟨"LittlePot$Reader", "isDigit", "(I)Z"⟩, 8) := ⟨⟨by decide +kernel, by decide +kernel⟩, List.mem_of_getElem? (i := 106) (by decide +kernel), List.mem_of_getElem? (i := 560) (by decide +kernel), List.mem_of_getElem? (i := 561) (by decide +kernel)⟩
theorem lw_p7 : lw_okq (⟨"LittlePot$Reader", "keyHere", "()I"⟩, 8) := ⟨⟨by decide +kernel, by decide +kernel⟩, List.mem_of_getElem? (i := 106) (by decide +kernel), List.mem_of_getElem? (i := 564) (by decide +kernel), List.mem_of_getElem? (i := 565) (by decide +kernel)⟩
theorem lw_p8 : lw_okq (⟨"LittlePot$Reader", "isWord", "(Ljava/lang/String;)Z"⟩, 8) := ⟨⟨by decide +kernel, by decide +kernel⟩, List.mem_of_getElem? (i := 106) (by decide +kernel), List.mem_of_getElem? (i := 569) (by decide +kernel), List.mem_of_getElem? (i := 570) (by decide +kernel)⟩
theorem lw_p9 : lw_okq (⟨"LittlePot$Reader", "readsOr", "()Z"⟩, 8) := ⟨⟨by decide +kernel, by decide +kernel⟩, List.mem_of_getElem? (i := 106) (by decide +kernel), List.mem_of_getElem? (i := 627) (by decide +kernel), List.mem_of_getElem? (i := 628) (by decide +kernel)⟩
theorem lw_p10 : lw_okq (⟨"LittlePot$Reader", "readsAnd", "()Z"⟩, 8) := ⟨⟨by decide +kernel, by decide +kernel⟩, List.mem_of_getElem? (i := 106) (by decide +kernel), List.mem_of_getElem? (i := 631) (by decide +kernel), List.mem_of_getElem? (i := 632) (by decide +kernel)⟩
theorem lw_p11 : lw_okq (⟨"LittlePot$Reader", "readsTest", "()Z"⟩, 8) := ⟨⟨by decide +kernel, by decide +kernel⟩, List.mem_of_getElem? (i := 106) (by decide +kernel), List.mem_of_getElem? (i := 635) (by decide +kernel), List.mem_of_getElem? (i := 636) (by decide +kernel)⟩
theorem lw_p12 : lw_okq (⟨"LittlePot$Reader", "readsSum", "()Z"⟩, 8) := ⟨⟨by decide +kernel, by decide +kernel⟩, List.mem_of_getElem? (i := 106) (by decide +kernel), List.mem_of_getElem? (i := 639) (by decide +kernel), List.mem_of_getElem? (i := 640) (by decide +kernel)⟩
theorem lw_p13 : lw_okq (⟨"LittlePot$Reader", "readsTerm", "()Z"⟩, 8) := ⟨⟨by decide +kernel, by decide +kernel⟩, List.mem_of_getElem? (i := 106) (by decide +kernel), List.mem_of_getElem? (i := 643) (by decide +kernel), List.mem_of_getElem? (i := 644) (by decide +kernel)⟩
theorem lw_p14 : lw_okq (⟨"LittlePot$Reader", "readsPiece", "()Z"⟩, 8) := ⟨⟨by decide +kernel, by decide +kernel⟩, List.mem_of_getElem? (i := 106) (by decide +kernel), List.mem_of_getElem? (i := 647) (by decide +kernel), List.mem_of_getElem? (i := 648) (by decide +kernel)⟩
theorem lw_p15 : lw_okq (⟨"LittlePot$Reader", "isSign", "(C)Z"⟩, 8) := ⟨⟨by decide +kernel, by decide +kernel⟩, List.mem_of_getElem? (i := 106) (by decide +kernel), List.mem_of_getElem? (i := 651) (by decide +kernel), List.mem_of_getElem? (i := 652) (by decide +kernel)⟩
def lw_privs_1 : List (MethodName × Nat) := [(⟨"LittlePot$Town", "flows", "(I)V"⟩, 14), (⟨"LittlePot$Town", "feasts", "(I)V"⟩, 14), (⟨"LittlePot$Town", "fullestBeside", "(II)I"⟩, 14), (⟨"LittlePot$Town", "miceEat", "()V"⟩, 14), (⟨"LittlePot$Reader", "goesOn", "()V"⟩, 8), (⟨"LittlePot$Reader", "isLetter", "(I)Z"⟩, 8), (⟨"LittlePot$Reader", "isDigit", "(I)Z"⟩, 8), (⟨"LittlePot$Reader", "keyHere", "()I"⟩, 8), (⟨"LittlePot$Reader", "isWord", "(Ljava/lang/String;)Z"⟩, 8), (⟨"LittlePot$Reader", "readsOr", "()Z"⟩, 8), (⟨"LittlePot$Reader", "readsAnd", "()Z"⟩, 8), (⟨"LittlePot$Reader", "readsTest", "()Z"⟩, 8), (⟨"LittlePot$Reader", "readsSum", "()Z"⟩, 8), (⟨"LittlePot$Reader", "readsTerm", "()Z"⟩, 8), (⟨"LittlePot$Reader", "readsPiece", "()Z"⟩, 8), (⟨"LittlePot$Reader", "isSign", "(C)Z"⟩, 8)]
theorem lw_r1 : ∀ q ∈ lw_privs_1, lw_okq q := List.forall_mem_cons.mpr ⟨lw_p0, List.forall_mem_cons.mpr ⟨lw_p1, List.forall_mem_cons.mpr ⟨lw_p2, List.forall_mem_cons.mpr ⟨lw_p3, List.forall_mem_cons.mpr ⟨lw_p4, List.forall_mem_cons.mpr ⟨lw_p5, List.forall_mem_cons.mpr ⟨lw_p6, List.forall_mem_cons.mpr ⟨lw_p7, List.forall_mem_cons.mpr ⟨lw_p8, List.forall_mem_cons.mpr ⟨lw_p9, List.forall_mem_cons.mpr ⟨lw_p10, List.forall_mem_cons.mpr ⟨lw_p11, List.forall_mem_cons.mpr ⟨lw_p12, List.forall_mem_cons.mpr ⟨lw_p13, List.forall_mem_cons.mpr ⟨lw_p14, List.forall_mem_cons.mpr ⟨lw_p15, fun _ h => absurd h List.not_mem_nil⟩⟩⟩⟩⟩⟩⟩⟩⟩⟩⟩⟩⟩⟩⟩⟩
theorem lw_p16 : lw_okq (⟨"LittlePot$Reader", "readsNot", "()Z"⟩, 8) := ⟨⟨by decide +kernel, by decide +kernel⟩, List.mem_of_getElem? (i := 106) (by decide +kernel), List.mem_of_getElem? (i := 655) (by decide +kernel), List.mem_of_getElem? (i := 656) (by decide +kernel)⟩
theorem lw_p17 : lw_okq (⟨"LittlePot$Reader", "readsParen", "()Z"⟩, 8) := ⟨⟨by decide +kernel, by decide +kernel⟩, List.mem_of_getElem? (i := 106) (by decide +kernel), List.mem_of_getElem? (i := 663) (by decide +kernel), List.mem_of_getElem? (i := 664) (by decide +kernel)⟩
theorem lw_p18 : lw_okq (⟨"LittlePot$Reader", "nameHere", "()I"⟩, 8) := ⟨⟨by decide +kernel, by decide +kernel⟩, List.mem_of_getElem? (i := 106) (by decide +kernel), List.mem_of_getElem? (i := 667) (by decide +kernel), List.mem_of_getElem? (i := 668) (by decide +kernel)⟩
theorem lw_p19 : lw_okq (⟨"LittlePot$Reader", "numberHere", "()I"⟩, 8) := ⟨⟨by decide +kernel, by decide +kernel⟩, List.mem_of_getElem? (i := 106) (by decide +kernel), List.mem_of_getElem? (i := 729) (by decide +kernel), List.mem_of_getElem? (i := 730) (by decide +kernel)⟩
theorem lw_p20 : lw_okq (⟨"LittlePot", "unlessHeld", "(II)I"⟩, 12) := ⟨⟨by decide +kernel, by decide +kernel⟩, List.mem_of_getElem? (i := 20) (by decide +kernel), List.mem_of_getElem? (i := 813) (by decide +kernel), List.mem_of_getElem? (i := 814) (by decide +kernel)⟩
theorem lw_p21 : lw_okq (⟨"LittlePot", "waited", "(III)Z"⟩, 12) := ⟨⟨by decide +kernel, by decide +kernel⟩, List.mem_of_getElem? (i := 20) (by decide +kernel), List.mem_of_getElem? (i := 834) (by decide +kernel), List.mem_of_getElem? (i := 835) (by decide +kernel)⟩
theorem lw_p22 : lw_okq (⟨"LittlePotModel", "comes", "(II)V"⟩, 33) := ⟨⟨by decide +kernel, by decide +kernel⟩, List.mem_of_getElem? (i := 850) (by decide +kernel), List.mem_of_getElem? (i := 970) (by decide +kernel), List.mem_of_getElem? (i := 971) (by decide +kernel)⟩
theorem lw_p23 : lw_okq (⟨"LittlePotModel", "sets", "(III)V"⟩, 33) := ⟨⟨by decide +kernel, by decide +kernel⟩, List.mem_of_getElem? (i := 850) (by decide +kernel), List.mem_of_getElem? (i := 974) (by decide +kernel), List.mem_of_getElem? (i := 975) (by decide +kernel)⟩
theorem lw_p24 : lw_okq (⟨"LittlePotModel", "isEater", "(I)Z"⟩, 33) := ⟨⟨by decide +kernel, by decide +kernel⟩, List.mem_of_getElem? (i := 850) (by decide +kernel), List.mem_of_getElem? (i := 982) (by decide +kernel), List.mem_of_getElem? (i := 983) (by decide +kernel)⟩
theorem lw_p25 : lw_okq (⟨"LittlePotModel", "of", "(II)I"⟩, 33) := ⟨⟨by decide +kernel, by decide +kernel⟩, List.mem_of_getElem? (i := 850) (by decide +kernel), List.mem_of_getElem? (i := 986) (by decide +kernel), List.mem_of_getElem? (i := 987) (by decide +kernel)⟩
theorem lw_p26 : lw_okq (⟨"LittlePotModel", "eats", "(I)I"⟩, 33) := ⟨⟨by decide +kernel, by decide +kernel⟩, List.mem_of_getElem? (i := 850) (by decide +kernel), List.mem_of_getElem? (i := 990) (by decide +kernel), List.mem_of_getElem? (i := 991) (by decide +kernel)⟩
theorem lw_p27 : lw_okq (⟨"LittlePotModel", "parts", "(I)I"⟩, 33) := ⟨⟨by decide +kernel, by decide +kernel⟩, List.mem_of_getElem? (i := 850) (by decide +kernel), List.mem_of_getElem? (i := 994) (by decide +kernel), List.mem_of_getElem? (i := 995) (by decide +kernel)⟩
theorem lw_p28 : lw_okq (⟨"LittlePotModel", "wades", "(I)I"⟩, 33) := ⟨⟨by decide +kernel, by decide +kernel⟩, List.mem_of_getElem? (i := 850) (by decide +kernel), List.mem_of_getElem? (i := 998) (by decide +kernel), List.mem_of_getElem? (i := 999) (by decide +kernel)⟩
theorem lw_p29 : lw_okq (⟨"LittlePotModel", "worth", "(I)I"⟩, 33) := ⟨⟨by decide +kernel, by decide +kernel⟩, List.mem_of_getElem? (i := 850) (by decide +kernel), List.mem_of_getElem? (i := 1002) (by decide +kernel), List.mem_of_getElem? (i := 1003) (by decide +kernel)⟩
theorem lw_p30 : lw_okq (⟨"LittlePotModel", "level", "(I)I"⟩, 33) := ⟨⟨by decide +kernel, by decide +kernel⟩, List.mem_of_getElem? (i := 850) (by decide +kernel), List.mem_of_getElem? (i := 1011) (by decide +kernel), List.mem_of_getElem? (i := 1012) (by decide +kernel)⟩
theorem lw_p31 : lw_okq (⟨"LittlePotModel", "becomes", "(II)I"⟩, 33) := ⟨⟨by decide +kernel, by decide +kernel⟩, List.mem_of_getElem? (i := 850) (by decide +kernel), List.mem_of_getElem? (i := 1022) (by decide +kernel), List.mem_of_getElem? (i := 1023) (by decide +kernel)⟩
def lw_privs_2 : List (MethodName × Nat) := [(⟨"LittlePot$Reader", "readsNot", "()Z"⟩, 8), (⟨"LittlePot$Reader", "readsParen", "()Z"⟩, 8), (⟨"LittlePot$Reader", "nameHere", "()I"⟩, 8), (⟨"LittlePot$Reader", "numberHere", "()I"⟩, 8), (⟨"LittlePot", "unlessHeld", "(II)I"⟩, 12), (⟨"LittlePot", "waited", "(III)Z"⟩, 12), (⟨"LittlePotModel", "comes", "(II)V"⟩, 33), (⟨"LittlePotModel", "sets", "(III)V"⟩, 33), (⟨"LittlePotModel", "isEater", "(I)Z"⟩, 33), (⟨"LittlePotModel", "of", "(II)I"⟩, 33), (⟨"LittlePotModel", "eats", "(I)I"⟩, 33), (⟨"LittlePotModel", "parts", "(I)I"⟩, 33), (⟨"LittlePotModel", "wades", "(I)I"⟩, 33), (⟨"LittlePotModel", "worth", "(I)I"⟩, 33), (⟨"LittlePotModel", "level", "(I)I"⟩, 33), (⟨"LittlePotModel", "becomes", "(II)I"⟩, 33)]
theorem lw_r2 : ∀ q ∈ lw_privs_2, lw_okq q := List.forall_mem_cons.mpr ⟨lw_p16, List.forall_mem_cons.mpr ⟨lw_p17, List.forall_mem_cons.mpr ⟨lw_p18, List.forall_mem_cons.mpr ⟨lw_p19, List.forall_mem_cons.mpr ⟨lw_p20, List.forall_mem_cons.mpr ⟨lw_p21, List.forall_mem_cons.mpr ⟨lw_p22, List.forall_mem_cons.mpr ⟨lw_p23, List.forall_mem_cons.mpr ⟨lw_p24, List.forall_mem_cons.mpr ⟨lw_p25, List.forall_mem_cons.mpr ⟨lw_p26, List.forall_mem_cons.mpr ⟨lw_p27, List.forall_mem_cons.mpr ⟨lw_p28, List.forall_mem_cons.mpr ⟨lw_p29, List.forall_mem_cons.mpr ⟨lw_p30, List.forall_mem_cons.mpr ⟨lw_p31, fun _ h => absurd h List.not_mem_nil⟩⟩⟩⟩⟩⟩⟩⟩⟩⟩⟩⟩⟩⟩⟩⟩
theorem lw_p32 : lw_okq (⟨"LittlePotModel", "drawn", "()I"⟩, 33) := ⟨⟨by decide +kernel, by decide +kernel⟩, List.mem_of_getElem? (i := 850) (by decide +kernel), List.mem_of_getElem? (i := 1067) (by decide +kernel), List.mem_of_getElem? (i := 1068) (by decide +kernel)⟩
theorem lw_p33 : lw_okq (⟨"LittlePotModel", "goesOn", "()I"⟩, 33) := ⟨⟨by decide +kernel, by decide +kernel⟩, List.mem_of_getElem? (i := 850) (by decide +kernel), List.mem_of_getElem? (i := 1081) (by decide +kernel), List.mem_of_getElem? (i := 1082) (by decide +kernel)⟩
theorem lw_p34 : lw_okq (⟨"LittlePotModel", "pours", "()I"⟩, 33) := ⟨⟨by decide +kernel, by decide +kernel⟩, List.mem_of_getElem? (i := 850) (by decide +kernel), List.mem_of_getElem? (i := 1085) (by decide +kernel), List.mem_of_getElem? (i := 1086) (by decide +kernel)⟩
theorem lw_p35 : lw_okq (⟨"LittlePotModel", "counts", "(I)I"⟩, 33) := ⟨⟨by decide +kernel, by decide +kernel⟩, List.mem_of_getElem? (i := 850) (by decide +kernel), List.mem_of_getElem? (i := 1089) (by decide +kernel), List.mem_of_getElem? (i := 1090) (by decide +kernel)⟩
theorem lw_p36 : lw_okq (⟨"LittlePotModel", "textAt", "(I)I"⟩, 33) := ⟨⟨by decide +kernel, by decide +kernel⟩, List.mem_of_getElem? (i := 850) (by decide +kernel), List.mem_of_getElem? (i := 1093) (by decide +kernel), List.mem_of_getElem? (i := 1094) (by decide +kernel)⟩
theorem lw_p37 : lw_okq (⟨"LittlePotModel", "worked", "(I)I"⟩, 33) := ⟨⟨by decide +kernel, by decide +kernel⟩, List.mem_of_getElem? (i := 850) (by decide +kernel), List.mem_of_getElem? (i := 1097) (by decide +kernel), List.mem_of_getElem? (i := 1098) (by decide +kernel)⟩
theorem lw_p38 : lw_okq (⟨"LittlePotModel", "flows", "(I)V"⟩, 33) := ⟨⟨by decide +kernel, by decide +kernel⟩, List.mem_of_getElem? (i := 850) (by decide +kernel), List.mem_of_getElem? (i := 1104) (by decide +kernel), List.mem_of_getElem? (i := 1105) (by decide +kernel)⟩
theorem lw_p39 : lw_okq (⟨"LittlePotModel", "dines", "(I)I"⟩, 33) := ⟨⟨by decide +kernel, by decide +kernel⟩, List.mem_of_getElem? (i := 850) (by decide +kernel), List.mem_of_getElem? (i := 1111) (by decide +kernel), List.mem_of_getElem? (i := 1112) (by decide +kernel)⟩
theorem lw_p40 : lw_okq (⟨"LittlePotModel", "allParts", "()I"⟩, 33) := ⟨⟨by decide +kernel, by decide +kernel⟩, List.mem_of_getElem? (i := 850) (by decide +kernel), List.mem_of_getElem? (i := 1119) (by decide +kernel), List.mem_of_getElem? (i := 1120) (by decide +kernel)⟩
theorem lw_p41 : lw_okq (⟨"LittlePotModel", "allAte", "()I"⟩, 33) := ⟨⟨by decide +kernel, by decide +kernel⟩, List.mem_of_getElem? (i := 850) (by decide +kernel), List.mem_of_getElem? (i := 1123) (by decide +kernel), List.mem_of_getElem? (i := 1124) (by decide +kernel)⟩
theorem lw_p42 : lw_okq (⟨"LittlePotModel", "manyWet", "()I"⟩, 33) := ⟨⟨by decide +kernel, by decide +kernel⟩, List.mem_of_getElem? (i := 850) (by decide +kernel), List.mem_of_getElem? (i := 1127) (by decide +kernel), List.mem_of_getElem? (i := 1128) (by decide +kernel)⟩
theorem lw_p43 : lw_okq (⟨"LittlePotModel", "laysBy", "()V"⟩, 33) := ⟨⟨by decide +kernel, by decide +kernel⟩, List.mem_of_getElem? (i := 850) (by decide +kernel), List.mem_of_getElem? (i := 1145) (by decide +kernel), List.mem_of_getElem? (i := 1146) (by decide +kernel)⟩
theorem lw_p44 : lw_okq (⟨"LittlePotModel", "goesOnMany", "(I)V"⟩, 33) := ⟨⟨by decide +kernel, by decide +kernel⟩, List.mem_of_getElem? (i := 850) (by decide +kernel), List.mem_of_getElem? (i := 1149) (by decide +kernel), List.mem_of_getElem? (i := 1150) (by decide +kernel)⟩
theorem lw_p45 : lw_okq (⟨"LittlePotModel", "laysBack", "()V"⟩, 33) := ⟨⟨by decide +kernel, by decide +kernel⟩, List.mem_of_getElem? (i := 850) (by decide +kernel), List.mem_of_getElem? (i := 1153) (by decide +kernel), List.mem_of_getElem? (i := 1154) (by decide +kernel)⟩
theorem lw_p46 : lw_okq (⟨"LittlePotModel", "parse", "()I"⟩, 33) := ⟨⟨by decide +kernel, by decide +kernel⟩, List.mem_of_getElem? (i := 850) (by decide +kernel), List.mem_of_getElem? (i := 1194) (by decide +kernel), List.mem_of_getElem? (i := 1195) (by decide +kernel)⟩
theorem lw_p47 : lw_okq (⟨"LittlePotModel", "nextToken", "()V"⟩, 33) := ⟨⟨by decide +kernel, by decide +kernel⟩, List.mem_of_getElem? (i := 850) (by decide +kernel), List.mem_of_getElem? (i := 1198) (by decide +kernel), List.mem_of_getElem? (i := 1199) (by decide +kernel)⟩
def lw_privs_3 : List (MethodName × Nat) := [(⟨"LittlePotModel", "drawn", "()I"⟩, 33), (⟨"LittlePotModel", "goesOn", "()I"⟩, 33), (⟨"LittlePotModel", "pours", "()I"⟩, 33), (⟨"LittlePotModel", "counts", "(I)I"⟩, 33), (⟨"LittlePotModel", "textAt", "(I)I"⟩, 33), (⟨"LittlePotModel", "worked", "(I)I"⟩, 33), (⟨"LittlePotModel", "flows", "(I)V"⟩, 33), (⟨"LittlePotModel", "dines", "(I)I"⟩, 33), (⟨"LittlePotModel", "allParts", "()I"⟩, 33), (⟨"LittlePotModel", "allAte", "()I"⟩, 33), (⟨"LittlePotModel", "manyWet", "()I"⟩, 33), (⟨"LittlePotModel", "laysBy", "()V"⟩, 33), (⟨"LittlePotModel", "goesOnMany", "(I)V"⟩, 33), (⟨"LittlePotModel", "laysBack", "()V"⟩, 33), (⟨"LittlePotModel", "parse", "()I"⟩, 33), (⟨"LittlePotModel", "nextToken", "()V"⟩, 33)]
theorem lw_r3 : ∀ q ∈ lw_privs_3, lw_okq q := List.forall_mem_cons.mpr ⟨lw_p32, List.forall_mem_cons.mpr ⟨lw_p33, List.forall_mem_cons.mpr ⟨lw_p34, List.forall_mem_cons.mpr ⟨lw_p35, List.forall_mem_cons.mpr ⟨lw_p36, List.forall_mem_cons.mpr ⟨lw_p37, List.forall_mem_cons.mpr ⟨lw_p38, List.forall_mem_cons.mpr ⟨lw_p39, List.forall_mem_cons.mpr ⟨lw_p40, List.forall_mem_cons.mpr ⟨lw_p41, List.forall_mem_cons.mpr ⟨lw_p42, List.forall_mem_cons.mpr ⟨lw_p43, List.forall_mem_cons.mpr ⟨lw_p44, List.forall_mem_cons.mpr ⟨lw_p45, List.forall_mem_cons.mpr ⟨lw_p46, List.forall_mem_cons.mpr ⟨lw_p47, fun _ h => absurd h List.not_mem_nil⟩⟩⟩⟩⟩⟩⟩⟩⟩⟩⟩⟩⟩⟩⟩⟩
theorem lw_p48 : lw_okq (⟨"LittlePotModel", "isLetter", "(I)Z"⟩, 33) := ⟨⟨by decide +kernel, by decide +kernel⟩, List.mem_of_getElem? (i := 850) (by decide +kernel), List.mem_of_getElem? (i := 1202) (by decide +kernel), List.mem_of_getElem? (i := 1203) (by decide +kernel)⟩
theorem lw_p49 : lw_okq (⟨"LittlePotModel", "isDigit", "(I)Z"⟩, 33) := ⟨⟨by decide +kernel, by decide +kernel⟩, List.mem_of_getElem? (i := 850) (by decide +kernel), List.mem_of_getElem? (i := 1208) (by decide +kernel), List.mem_of_getElem? (i := 1209) (by decide +kernel)⟩
theorem lw_p50 : lw_okq (⟨"LittlePotModel", "key", "()I"⟩, 33) := ⟨⟨by decide +kernel, by decide +kernel⟩, List.mem_of_getElem? (i := 850) (by decide +kernel), List.mem_of_getElem? (i := 1214) (by decide +kernel), List.mem_of_getElem? (i := 1215) (by decide +kernel)⟩
theorem lw_p51 : lw_okq (⟨"LittlePotModel", "isWordAt", "(IIII)Z"⟩, 33) := ⟨⟨by decide +kernel, by decide +kernel⟩, List.mem_of_getElem? (i := 850) (by decide +kernel), List.mem_of_getElem? (i := 1218) (by decide +kernel), List.mem_of_getElem? (i := 1219) (by decide +kernel)⟩
theorem lw_p52 : lw_okq (⟨"LittlePotModel", "either", "(I)Z"⟩, 33) := ⟨⟨by decide +kernel, by decide +kernel⟩, List.mem_of_getElem? (i := 850) (by decide +kernel), List.mem_of_getElem? (i := 1222) (by decide +kernel), List.mem_of_getElem? (i := 1223) (by decide +kernel)⟩
theorem lw_p53 : lw_okq (⟨"LittlePotModel", "both", "(I)Z"⟩, 33) := ⟨⟨by decide +kernel, by decide +kernel⟩, List.mem_of_getElem? (i := 850) (by decide +kernel), List.mem_of_getElem? (i := 1226) (by decide +kernel), List.mem_of_getElem? (i := 1227) (by decide +kernel)⟩
theorem lw_p54 : lw_okq (⟨"LittlePotModel", "test", "(I)Z"⟩, 33) := ⟨⟨by decide +kernel, by decide +kernel⟩, List.mem_of_getElem? (i := 850) (by decide +kernel), List.mem_of_getElem? (i := 1230) (by decide +kernel), List.mem_of_getElem? (i := 1231) (by decide +kernel)⟩
theorem lw_p55 : lw_okq (⟨"LittlePotModel", "sum", "(I)Z"⟩, 33) := ⟨⟨by decide +kernel, by decide +kernel⟩, List.mem_of_getElem? (i := 850) (by decide +kernel), List.mem_of_getElem? (i := 1234) (by decide +kernel), List.mem_of_getElem? (i := 1235) (by decide +kernel)⟩
theorem lw_p56 : lw_okq (⟨"LittlePotModel", "term", "(I)Z"⟩, 33) := ⟨⟨by decide +kernel, by decide +kernel⟩, List.mem_of_getElem? (i := 850) (by decide +kernel), List.mem_of_getElem? (i := 1238) (by decide +kernel), List.mem_of_getElem? (i := 1239) (by decide +kernel)⟩
theorem lw_p57 : lw_okq (⟨"LittlePotModel", "part0", "(I)Z"⟩, 33) := ⟨⟨by decide +kernel, by decide +kernel⟩, List.mem_of_getElem? (i := 850) (by decide +kernel), List.mem_of_getElem? (i := 1242) (by decide +kernel), List.mem_of_getElem? (i := 1243) (by decide +kernel)⟩
theorem lw_p58 : lw_okq (⟨"LittlePotModel", "step", "(II)V"⟩, 33) := ⟨⟨by decide +kernel, by decide +kernel⟩, List.mem_of_getElem? (i := 850) (by decide +kernel), List.mem_of_getElem? (i := 1246) (by decide +kernel), List.mem_of_getElem? (i := 1247) (by decide +kernel)⟩
theorem lw_p59 : lw_okq (⟨"LittlePotModel", "isSign", "(I)Z"⟩, 33) := ⟨⟨by decide +kernel, by decide +kernel⟩, List.mem_of_getElem? (i := 850) (by decide +kernel), List.mem_of_getElem? (i := 1253) (by decide +kernel), List.mem_of_getElem? (i := 1254) (by decide +kernel)⟩
theorem lw_p60 : lw_okq (⟨"LittlePotModel", "isText", "(I)Z"⟩, 33) := ⟨⟨by decide +kernel, by decide +kernel⟩, List.mem_of_getElem? (i := 850) (by decide +kernel), List.mem_of_getElem? (i := 1261) (by decide +kernel), List.mem_of_getElem? (i := 1262) (by decide +kernel)⟩
theorem lw_p61 : lw_okq (⟨"LittlePotModel", "setAside", "([I[I)V"⟩, 33) := ⟨⟨by decide +kernel, by decide +kernel⟩, List.mem_of_getElem? (i := 850) (by decide +kernel), List.mem_of_getElem? (i := 1334) (by decide +kernel), List.mem_of_getElem? (i := 1335) (by decide +kernel)⟩
def lw_privs_4 : List (MethodName × Nat) := [(⟨"LittlePotModel", "isLetter", "(I)Z"⟩, 33), (⟨"LittlePotModel", "isDigit", "(I)Z"⟩, 33), (⟨"LittlePotModel", "key", "()I"⟩, 33), (⟨"LittlePotModel", "isWordAt", "(IIII)Z"⟩, 33), (⟨"LittlePotModel", "either", "(I)Z"⟩, 33), (⟨"LittlePotModel", "both", "(I)Z"⟩, 33), (⟨"LittlePotModel", "test", "(I)Z"⟩, 33), (⟨"LittlePotModel", "sum", "(I)Z"⟩, 33), (⟨"LittlePotModel", "term", "(I)Z"⟩, 33), (⟨"LittlePotModel", "part0", "(I)Z"⟩, 33), (⟨"LittlePotModel", "step", "(II)V"⟩, 33), (⟨"LittlePotModel", "isSign", "(I)Z"⟩, 33), (⟨"LittlePotModel", "isText", "(I)Z"⟩, 33), (⟨"LittlePotModel", "setAside", "([I[I)V"⟩, 33)]
theorem lw_r4 : ∀ q ∈ lw_privs_4, lw_okq q := List.forall_mem_cons.mpr ⟨lw_p48, List.forall_mem_cons.mpr ⟨lw_p49, List.forall_mem_cons.mpr ⟨lw_p50, List.forall_mem_cons.mpr ⟨lw_p51, List.forall_mem_cons.mpr ⟨lw_p52, List.forall_mem_cons.mpr ⟨lw_p53, List.forall_mem_cons.mpr ⟨lw_p54, List.forall_mem_cons.mpr ⟨lw_p55, List.forall_mem_cons.mpr ⟨lw_p56, List.forall_mem_cons.mpr ⟨lw_p57, List.forall_mem_cons.mpr ⟨lw_p58, List.forall_mem_cons.mpr ⟨lw_p59, List.forall_mem_cons.mpr ⟨lw_p60, List.forall_mem_cons.mpr ⟨lw_p61, fun _ h => absurd h List.not_mem_nil⟩⟩⟩⟩⟩⟩⟩⟩⟩⟩⟩⟩⟩⟩
def lw_privs : List (MethodName × Nat) := lw_privs_1 ++ (lw_privs_2 ++ (lw_privs_3 ++ (lw_privs_4)))
def lw_tbl : List Cond := k2_sels lw_privs ++ tables_1
theorem lw_privs_ok : ∀ q ∈ lw_privs, lw_okq q := by
  show ∀ q ∈ lw_privs_1 ++ (lw_privs_2 ++ (lw_privs_3 ++ (lw_privs_4))), lw_okq q
  exact List.forall_mem_append.mpr ⟨lw_r1, List.forall_mem_append.mpr ⟨lw_r2, List.forall_mem_append.mpr ⟨lw_r3, lw_r4⟩⟩⟩
def RX0 : String := "LittlePot$Kinds"
def TX0 : u_T := fun k => match k with
  | _ => ("", "", "", false)
def tyX0 : Nat → FieldType := fun k => match k with
  | _ => .int
theorem nmX0 : ∀ a, a < 0 → ∀ b, b < 0 → a ≠ b → (TX0 a).2.1 ≠ (TX0 b).2.1 := by decide +kernel
theorem tyX0_ok : ∀ k, k < 0 → parseFieldDescriptor (TX0 k).2.2.1 = some (tyX0 k) := by decide +kernel
abbrev cX0_isKind : ByteArray := prog_2_method_2_code
def yX0_isKind : MethodName := ⟨RX0, "isKind", "(I)Z"⟩
abbrev cX0_isUnder : ByteArray := prog_2_method_3_code
def yX0_isUnder : MethodName := ⟨RX0, "isUnder", "(II)Z"⟩
abbrev cX0_eats : ByteArray := prog_2_method_4_code
def yX0_eats : MethodName := ⟨RX0, "eats", "(II)I"⟩
abbrev cX0_wades : ByteArray := prog_2_method_5_code
def yX0_wades : MethodName := ⟨RX0, "wades", "(I)I"⟩
abbrev cX0_worth : ByteArray := prog_2_method_6_code
def yX0_worth : MethodName := ⟨RX0, "worth", "(II)I"⟩
abbrev cX0_gluttonWorth : ByteArray := prog_2_method_7_code
def yX0_gluttonWorth : MethodName := ⟨RX0, "gluttonWorth", "(I)I"⟩
abbrev cX0_childWorth : ByteArray := prog_2_method_8_code
def yX0_childWorth : MethodName := ⟨RX0, "childWorth", "(I)I"⟩
def RX1 : String := "LittlePot$Laws"
def TX1 : u_T := fun k => match k with
  | 0 => ("LittlePot$Laws", "texts", "[LLittlePot$Text;", true)
  | _ => ("LittlePot$Laws", "stack", "[I", true)
def tyX1 : Nat → FieldType := fun k => match k with
  | 0 => .array (.object "LittlePot$Text")
  | _ => .array .int
theorem nmX1 : ∀ a, a < 2 → ∀ b, b < 2 → a ≠ b → (TX1 a).2.1 ≠ (TX1 b).2.1 := by decide +kernel
theorem tyX1_ok : ∀ k, k < 2 → parseFieldDescriptor (TX1 k).2.2.1 = some (tyX1 k) := by decide +kernel
abbrev cX1_init : ByteArray := prog_3_method_1_code
def yX1_init : MethodName := ⟨RX1, "<init>", "()V"⟩
abbrev cX1_takes : ByteArray := prog_3_method_2_code
def yX1_takes : MethodName := ⟨RX1, "takes", "(ILLittlePot$Text;)LLittlePot$Text;"⟩
abbrev cX1_numbered : ByteArray := prog_3_method_3_code
def yX1_numbered : MethodName := ⟨RX1, "numbered", "(I)LLittlePot$Text;"⟩
abbrev cX1_last : ByteArray := prog_3_method_4_code
def yX1_last : MethodName := ⟨RX1, "last", "(II)I"⟩
abbrev cX1_counting : ByteArray := prog_3_method_5_code
def yX1_counting : MethodName := ⟨RX1, "counting", "(II)LLittlePot$Text;"⟩
abbrev cX1_given : ByteArray := prog_3_method_6_code
def yX1_given : MethodName := ⟨RX1, "given", "(LLittlePot$Text;III)I"⟩
abbrev cX1_joined : ByteArray := prog_3_method_7_code
def yX1_joined : MethodName := ⟨RX1, "joined", "(III)I"⟩
def RX2 : String := "LittlePot$Near"
def TX2 : u_T := fun k => match k with
  | _ => ("", "", "", false)
def tyX2 : Nat → FieldType := fun k => match k with
  | _ => .int
theorem nmX2 : ∀ a, a < 0 → ∀ b, b < 0 → a ≠ b → (TX2 a).2.1 ≠ (TX2 b).2.1 := by decide +kernel
theorem tyX2_ok : ∀ k, k < 0 → parseFieldDescriptor (TX2 k).2.2.1 = some (tyX2 k) := by decide +kernel
abbrev cX2_beside : ByteArray := prog_4_method_2_code
def yX2_beside : MethodName := ⟨RX2, "beside", "(II)I"⟩
def RX3 : String := "LittlePot$Reader"
def TX3 : u_T := fun k => match k with
  | 0 => ("LittlePot$Reader", "draft", "LLittlePot$Text;", false)
  | 1 => ("LittlePot$Reader", "length", "I", false)
  | 2 => ("LittlePot$Reader", "bytes", "[B", true)
  | 3 => ("LittlePot$Reader", "sort", "I", false)
  | 4 => ("LittlePot$Reader", "start", "I", false)
  | 5 => ("LittlePot$Reader", "end", "I", false)
  | 6 => ("LittlePot$Reader", "parens", "I", false)
  | _ => ("LittlePot$Reader", "nots", "I", false)
def tyX3 : Nat → FieldType := fun k => match k with
  | 0 => .object "LittlePot$Text"
  | 1 => .int
  | 2 => .array .byte
  | 3 => .int
  | 4 => .int
  | 5 => .int
  | 6 => .int
  | _ => .int
theorem nmX3 : ∀ a, a < 8 → ∀ b, b < 8 → a ≠ b → (TX3 a).2.1 ≠ (TX3 b).2.1 := by decide +kernel
theorem tyX3_ok : ∀ k, k < 8 → parseFieldDescriptor (TX3 k).2.2.1 = some (tyX3 k) := by decide +kernel
abbrev cX3_init : ByteArray := prog_5_method_1_code
def yX3_init : MethodName := ⟨RX3, "<init>", "()V"⟩
abbrev cX3_getsNumber : ByteArray := prog_5_method_2_code
def yX3_getsNumber : MethodName := ⟨RX3, "getsNumber", "(I)V"⟩
abbrev cX3_findsFault : ByteArray := prog_5_method_3_code
def yX3_findsFault : MethodName := ⟨RX3, "findsFault", "()I"⟩
abbrev cX3_goesOn : ByteArray := prog_5_method_4_code
def yX3_goesOn : MethodName := ⟨RX3, "goesOn", "()V"⟩
abbrev cX3_isLetter : ByteArray := prog_5_method_5_code
def yX3_isLetter : MethodName := ⟨RX3, "isLetter", "(I)Z"⟩
abbrev cX3_isDigit : ByteArray := prog_5_method_6_code
def yX3_isDigit : MethodName := ⟨RX3, "isDigit", "(I)Z"⟩
abbrev cX3_keyHere : ByteArray := prog_5_method_7_code
def yX3_keyHere : MethodName := ⟨RX3, "keyHere", "()I"⟩
abbrev cX3_isWord : ByteArray := prog_5_method_8_code
def yX3_isWord : MethodName := ⟨RX3, "isWord", "(Ljava/lang/String;)Z"⟩
abbrev cX3_nameHere : ByteArray := prog_5_method_9_code
def yX3_nameHere : MethodName := ⟨RX3, "nameHere", "()I"⟩
abbrev cX3_isSign : ByteArray := prog_5_method_10_code
def yX3_isSign : MethodName := ⟨RX3, "isSign", "(C)Z"⟩
abbrev cX3_readsOr : ByteArray := prog_5_method_11_code
def yX3_readsOr : MethodName := ⟨RX3, "readsOr", "()Z"⟩
abbrev cX3_readsAnd : ByteArray := prog_5_method_12_code
def yX3_readsAnd : MethodName := ⟨RX3, "readsAnd", "()Z"⟩
abbrev cX3_readsTest : ByteArray := prog_5_method_13_code
def yX3_readsTest : MethodName := ⟨RX3, "readsTest", "()Z"⟩
abbrev cX3_readsSum : ByteArray := prog_5_method_14_code
def yX3_readsSum : MethodName := ⟨RX3, "readsSum", "()Z"⟩
abbrev cX3_readsTerm : ByteArray := prog_5_method_15_code
def yX3_readsTerm : MethodName := ⟨RX3, "readsTerm", "()Z"⟩
abbrev cX3_readsPiece : ByteArray := prog_5_method_16_code
def yX3_readsPiece : MethodName := ⟨RX3, "readsPiece", "()Z"⟩
abbrev cX3_readsNot : ByteArray := prog_5_method_17_code
def yX3_readsNot : MethodName := ⟨RX3, "readsNot", "()Z"⟩
abbrev cX3_readsParen : ByteArray := prog_5_method_18_code
def yX3_readsParen : MethodName := ⟨RX3, "readsParen", "()Z"⟩
abbrev cX3_numberHere : ByteArray := prog_5_method_19_code
def yX3_numberHere : MethodName := ⟨RX3, "numberHere", "()I"⟩
def RX4 : String := "LittlePot$Sheet"
def TX4 : u_T := fun k => match k with
  | 0 => ("LittlePot$Sheet", "places", "[I", true)
  | 1 => ("LittlePot$Sheet", "sort", "I", false)
  | _ => ("LittlePot$Sheet", "size", "I", false)
def tyX4 : Nat → FieldType := fun k => match k with
  | 0 => .array .int
  | 1 => .int
  | _ => .int
theorem nmX4 : ∀ a, a < 3 → ∀ b, b < 3 → a ≠ b → (TX4 a).2.1 ≠ (TX4 b).2.1 := by decide +kernel
theorem tyX4_ok : ∀ k, k < 3 → parseFieldDescriptor (TX4 k).2.2.1 = some (tyX4 k) := by decide +kernel
abbrev cX4_init : ByteArray := prog_6_method_1_code
def yX4_init : MethodName := ⟨RX4, "<init>", "()V"⟩
abbrev cX4_becomes : ByteArray := prog_6_method_2_code
def yX4_becomes : MethodName := ⟨RX4, "becomes", "(II)V"⟩
abbrev cX4_becomes_ : ByteArray := prog_6_method_3_code
def yX4_becomes_ : MethodName := ⟨RX4, "becomes", "(LLittlePot$Sheet;)V"⟩
abbrev cX4_isMissing : ByteArray := prog_6_method_4_code
def yX4_isMissing : MethodName := ⟨RX4, "isMissing", "()Z"⟩
abbrev cX4_hasPlace : ByteArray := prog_6_method_5_code
def yX4_hasPlace : MethodName := ⟨RX4, "hasPlace", "(I)Z"⟩
abbrev cX4_hasPlaces : ByteArray := prog_6_method_6_code
def yX4_hasPlaces : MethodName := ⟨RX4, "hasPlaces", "(II)Z"⟩
abbrev cX4_isNumber : ByteArray := prog_6_method_7_code
def yX4_isNumber : MethodName := ⟨RX4, "isNumber", "(I)Z"⟩
abbrev cX4_differsFrom : ByteArray := prog_6_method_8_code
def yX4_differsFrom : MethodName := ⟨RX4, "differsFrom", "([I)I"⟩
abbrev cX4_firstUnlike : ByteArray := prog_6_method_9_code
def yX4_firstUnlike : MethodName := ⟨RX4, "firstUnlike", "([I)I"⟩
abbrev cX4_poursInto : ByteArray := prog_6_method_10_code
def yX4_poursInto : MethodName := ⟨RX4, "poursInto", "([I)I"⟩
def RX5 : String := "LittlePot$Slot"
def TX5 : u_T := fun k => match k with
  | 0 => ("LittlePot$Slot", "thing", "I", false)
  | 1 => ("LittlePot$Slot", "kind", "I", false)
  | 2 => ("LittlePot$Slot", "ate", "I", false)
  | 3 => ("LittlePot$Slot", "number", "I", false)
  | _ => ("LittlePot$Slot", "row", "LLittlePot$Sheet;", true)
def tyX5 : Nat → FieldType := fun k => match k with
  | 0 => .int
  | 1 => .int
  | 2 => .int
  | 3 => .int
  | _ => .object "LittlePot$Sheet"
theorem nmX5 : ∀ a, a < 5 → ∀ b, b < 5 → a ≠ b → (TX5 a).2.1 ≠ (TX5 b).2.1 := by decide +kernel
theorem tyX5_ok : ∀ k, k < 5 → parseFieldDescriptor (TX5 k).2.2.1 = some (tyX5 k) := by decide +kernel
abbrev cX5_init : ByteArray := prog_7_method_1_code
def yX5_init : MethodName := ⟨RX5, "<init>", "()V"⟩
def RX6 : String := "LittlePot$Text"
def TX6 : u_T := fun k => match k with
  | 0 => ("LittlePot$Text", "code", "[I", true)
  | 1 => ("LittlePot$Text", "size", "I", false)
  | 2 => ("LittlePot$Text", "key", "I", false)
  | _ => ("LittlePot$Text", "leaves", "I", false)
def tyX6 : Nat → FieldType := fun k => match k with
  | 0 => .array .int
  | 1 => .int
  | 2 => .int
  | _ => .int
theorem nmX6 : ∀ a, a < 4 → ∀ b, b < 4 → a ≠ b → (TX6 a).2.1 ≠ (TX6 b).2.1 := by decide +kernel
theorem tyX6_ok : ∀ k, k < 4 → parseFieldDescriptor (TX6 k).2.2.1 = some (tyX6 k) := by decide +kernel
abbrev cX6_init : ByteArray := prog_8_method_1_code
def yX6_init : MethodName := ⟨RX6, "<init>", "()V"⟩
abbrev cX6_begins : ByteArray := prog_8_method_2_code
def yX6_begins : MethodName := ⟨RX6, "begins", "(I)V"⟩
abbrev cX6_adds : ByteArray := prog_8_method_3_code
def yX6_adds : MethodName := ⟨RX6, "adds", "(I)V"⟩
def RX7 : String := "LittlePot$Town"
def TX7 : u_T := fun k => match k with
  | 0 => ("LittlePot$Town", "heights", "[I", true)
  | 1 => ("LittlePot$Town", "walls", "[I", true)
  | 2 => ("LittlePot$Town", "parts", "[I", true)
  | 3 => ("LittlePot$Town", "kinds", "[I", true)
  | 4 => ("LittlePot$Town", "places", "[I", true)
  | 5 => ("LittlePot$Town", "ates", "[I", true)
  | 6 => ("LittlePot$Town", "rules", "[I", true)
  | 7 => ("LittlePot$Town", "eaters", "I", false)
  | 8 => ("LittlePot$Town", "pot", "I", false)
  | 9 => ("LittlePot$Town", "cooks", "Z", false)
  | 10 => ("LittlePot$Town", "minute", "I", false)
  | 11 => ("LittlePot$Town", "z", "I", false)
  | 12 => ("LittlePot$Town", "texts", "I", false)
  | _ => ("LittlePot$Town", "laws", "LLittlePot$Laws;", true)
def tyX7 : Nat → FieldType := fun k => match k with
  | 0 => .array .int
  | 1 => .array .int
  | 2 => .array .int
  | 3 => .array .int
  | 4 => .array .int
  | 5 => .array .int
  | 6 => .array .int
  | 7 => .int
  | 8 => .int
  | 9 => .boolean
  | 10 => .int
  | 11 => .int
  | 12 => .int
  | _ => .object "LittlePot$Laws"
theorem nmX7 : ∀ a, a < 14 → ∀ b, b < 14 → a ≠ b → (TX7 a).2.1 ≠ (TX7 b).2.1 := by decide +kernel
theorem tyX7_ok : ∀ k, k < 14 → parseFieldDescriptor (TX7 k).2.2.1 = some (tyX7 k) := by decide +kernel
abbrev cX7_init : ByteArray := prog_9_method_1_code
def yX7_init : MethodName := ⟨RX7, "<init>", "(LLittlePot$Laws;)V"⟩
abbrev cX7_becomes : ByteArray := prog_9_method_2_code
def yX7_becomes : MethodName := ⟨RX7, "becomes", "(LLittlePot$Town;)V"⟩
abbrev cX7_hasEater : ByteArray := prog_9_method_3_code
def yX7_hasEater : MethodName := ⟨RX7, "hasEater", "(I)Z"⟩
abbrev cX7_comes : ByteArray := prog_9_method_4_code
def yX7_comes : MethodName := ⟨RX7, "comes", "(II)I"⟩
abbrev cX7_laid : ByteArray := prog_9_method_5_code
def yX7_laid : MethodName := ⟨RX7, "laid", "(I)[I"⟩
abbrev cX7_level : ByteArray := prog_9_method_6_code
def yX7_level : MethodName := ⟨RX7, "level", "(I)I"⟩
abbrev cX7_allParts : ByteArray := prog_9_method_7_code
def yX7_allParts : MethodName := ⟨RX7, "allParts", "()I"⟩
abbrev cX7_allAte : ByteArray := prog_9_method_8_code
def yX7_allAte : MethodName := ⟨RX7, "allAte", "()I"⟩
abbrev cX7_wetCells : ByteArray := prog_9_method_9_code
def yX7_wetCells : MethodName := ⟨RX7, "wetCells", "()I"⟩
abbrev cX7_pours : ByteArray := prog_9_method_10_code
def yX7_pours : MethodName := ⟨RX7, "pours", "()I"⟩
abbrev cX7_draw : ByteArray := prog_9_method_11_code
def yX7_draw : MethodName := ⟨RX7, "draw", "()I"⟩
abbrev cX7_passes : ByteArray := prog_9_method_12_code
def yX7_passes : MethodName := ⟨RX7, "passes", "(I)V"⟩
abbrev cX7_pass : ByteArray := prog_9_method_13_code
def yX7_pass : MethodName := ⟨RX7, "pass", "()V"⟩
abbrev cX7_flows : ByteArray := prog_9_method_14_code
def yX7_flows : MethodName := ⟨RX7, "flows", "(I)V"⟩
abbrev cX7_feasts : ByteArray := prog_9_method_15_code
def yX7_feasts : MethodName := ⟨RX7, "feasts", "(I)V"⟩
abbrev cX7_fullestBeside : ByteArray := prog_9_method_16_code
def yX7_fullestBeside : MethodName := ⟨RX7, "fullestBeside", "(II)I"⟩
abbrev cX7_miceEat : ByteArray := prog_9_method_17_code
def yX7_miceEat : MethodName := ⟨RX7, "miceEat", "()V"⟩
def RX8 : String := "LittlePot$Ways"
def TX8 : u_T := fun k => match k with
  | 0 => ("LittlePot$Ways", "steps", "[I", true)
  | _ => ("LittlePot$Ways", "reached", "[I", true)
def tyX8 : Nat → FieldType := fun k => match k with
  | 0 => .array .int
  | _ => .array .int
theorem nmX8 : ∀ a, a < 2 → ∀ b, b < 2 → a ≠ b → (TX8 a).2.1 ≠ (TX8 b).2.1 := by decide +kernel
theorem tyX8_ok : ∀ k, k < 2 → parseFieldDescriptor (TX8 k).2.2.1 = some (tyX8 k) := by decide +kernel
abbrev cX8_init : ByteArray := prog_10_method_1_code
def yX8_init : MethodName := ⟨RX8, "<init>", "()V"⟩
abbrev cX8_fewest : ByteArray := prog_10_method_2_code
def yX8_fewest : MethodName := ⟨RX8, "fewest", "([IIII)I"⟩
def RX9 : String := "LittlePot"
def TX9 : u_T := fun k => match k with
  | 0 => ("LittlePot", "laws", "LLittlePot$Laws;", true)
  | 1 => ("LittlePot", "now", "LLittlePot$Town;", true)
  | 2 => ("LittlePot", "image", "LLittlePot$Town;", true)
  | 3 => ("LittlePot", "thought", "LLittlePot$Town;", true)
  | 4 => ("LittlePot", "trunk", "LLittlePot$Town;", true)
  | 5 => ("LittlePot", "reader", "LLittlePot$Reader;", true)
  | 6 => ("LittlePot", "ways", "LLittlePot$Ways;", true)
  | 7 => ("LittlePot", "sheets", "[LLittlePot$Sheet;", true)
  | 8 => ("LittlePot", "slots", "[LLittlePot$Slot;", true)
  | 9 => ("LittlePot", "waiting", "[I", true)
  | 10 => ("LittlePot", "kept", "Z", false)
  | _ => ("LittlePot", "waits", "I", false)
def tyX9 : Nat → FieldType := fun k => match k with
  | 0 => .object "LittlePot$Laws"
  | 1 => .object "LittlePot$Town"
  | 2 => .object "LittlePot$Town"
  | 3 => .object "LittlePot$Town"
  | 4 => .object "LittlePot$Town"
  | 5 => .object "LittlePot$Reader"
  | 6 => .object "LittlePot$Ways"
  | 7 => .array (.object "LittlePot$Sheet")
  | 8 => .array (.object "LittlePot$Slot")
  | 9 => .array .int
  | 10 => .boolean
  | _ => .int
theorem nmX9 : ∀ a, a < 12 → ∀ b, b < 12 → a ≠ b → (TX9 a).2.1 ≠ (TX9 b).2.1 := by decide +kernel
theorem tyX9_ok : ∀ k, k < 12 → parseFieldDescriptor (TX9 k).2.2.1 = some (tyX9 k) := by decide +kernel
abbrev cX9_init : ByteArray := prog_1_method_1_code
def yX9_init : MethodName := ⟨RX9, "<init>", "()V"⟩
abbrev cX9_eater : ByteArray := prog_1_method_2_code
def yX9_eater : MethodName := ⟨RX9, "eater", "(II)I"⟩
abbrev cX9_told : ByteArray := prog_1_method_3_code
def yX9_told : MethodName := ⟨RX9, "told", "(II)I"⟩
abbrev cX9_cell : ByteArray := prog_1_method_4_code
def yX9_cell : MethodName := ⟨RX9, "cell", "(II)I"⟩
abbrev cX9_lays : ByteArray := prog_1_method_5_code
def yX9_lays : MethodName := ⟨RX9, "lays", "(III)I"⟩
abbrev cX9_as : ByteArray := prog_1_method_6_code
def yX9_as : MethodName := ⟨RX9, "as", "(II)I"⟩
abbrev cX9_turns : ByteArray := prog_1_method_7_code
def yX9_turns : MethodName := ⟨RX9, "turns", "(II)I"⟩
abbrev cX9_sends : ByteArray := prog_1_method_8_code
def yX9_sends : MethodName := ⟨RX9, "sends", "(II)I"⟩
abbrev cX9_cook : ByteArray := prog_1_method_9_code
def yX9_cook : MethodName := ⟨RX9, "cook", "(I)I"⟩
abbrev cX9_say : ByteArray := prog_1_method_10_code
def yX9_say : MethodName := ⟨RX9, "say", "(I)I"⟩
abbrev cX9_rule : ByteArray := prog_1_method_11_code
def yX9_rule : MethodName := ⟨RX9, "rule", "(II)I"⟩
abbrev cX9_deal : ByteArray := prog_1_method_12_code
def yX9_deal : MethodName := ⟨RX9, "deal", "(I)I"⟩
abbrev cX9_seed : ByteArray := prog_1_method_13_code
def yX9_seed : MethodName := ⟨RX9, "seed", "(I)I"⟩
abbrev cX9_minutes : ByteArray := prog_1_method_14_code
def yX9_minutes : MethodName := ⟨RX9, "minutes", "(I)I"⟩
abbrev cX9_town : ByteArray := prog_1_method_15_code
def yX9_town : MethodName := ⟨RX9, "town", "(I)I"⟩
abbrev cX9_path : ByteArray := prog_1_method_16_code
def yX9_path : MethodName := ⟨RX9, "path", "(III)I"⟩
abbrev cX9_behind : ByteArray := prog_1_method_17_code
def yX9_behind : MethodName := ⟨RX9, "behind", "(II)I"⟩
abbrev cX9_wets : ByteArray := prog_1_method_18_code
def yX9_wets : MethodName := ⟨RX9, "wets", "(I)I"⟩
abbrev cX9_deepest : ByteArray := prog_1_method_19_code
def yX9_deepest : MethodName := ⟨RX9, "deepest", "(II)I"⟩
abbrev cX9_walled : ByteArray := prog_1_method_20_code
def yX9_walled : MethodName := ⟨RX9, "walled", "(III)I"⟩
abbrev cX9_enough : ByteArray := prog_1_method_21_code
def yX9_enough : MethodName := ⟨RX9, "enough", "(II)I"⟩
abbrev cX9_stood : ByteArray := prog_1_method_22_code
def yX9_stood : MethodName := ⟨RX9, "stood", "(III)I"⟩
abbrev cX9_fee : ByteArray := prog_1_method_23_code
def yX9_fee : MethodName := ⟨RX9, "fee", "()I"⟩
abbrev cX9_fine : ByteArray := prog_1_method_24_code
def yX9_fine : MethodName := ⟨RX9, "fine", "(I)I"⟩
abbrev cX9_feed : ByteArray := prog_1_method_25_code
def yX9_feed : MethodName := ⟨RX9, "feed", "(III)I"⟩
abbrev cX9_trim : ByteArray := prog_1_method_26_code
def yX9_trim : MethodName := ⟨RX9, "trim", "(I)I"⟩
abbrev cX9_text : ByteArray := prog_1_method_27_code
def yX9_text : MethodName := ⟨RX9, "text", "()I"⟩
abbrev cX9_textTold : ByteArray := prog_1_method_28_code
def yX9_textTold : MethodName := ⟨RX9, "textTold", "(II)I"⟩
abbrev cX9_why : ByteArray := prog_1_method_29_code
def yX9_why : MethodName := ⟨RX9, "why", "(I)I"⟩
abbrev cX9_sheet : ByteArray := prog_1_method_30_code
def yX9_sheet : MethodName := ⟨RX9, "sheet", "(III)I"⟩
abbrev cX9_mark : ByteArray := prog_1_method_31_code
def yX9_mark : MethodName := ⟨RX9, "mark", "(III)I"⟩
abbrev cX9_pour : ByteArray := prog_1_method_32_code
def yX9_pour : MethodName := ⟨RX9, "pour", "(I)I"⟩
abbrev cX9_reads : ByteArray := prog_1_method_33_code
def yX9_reads : MethodName := ⟨RX9, "reads", "(I)I"⟩
abbrev cX9_copy : ByteArray := prog_1_method_34_code
def yX9_copy : MethodName := ⟨RX9, "copy", "(IIIII)I"⟩
abbrev cX9_lay : ByteArray := prog_1_method_35_code
def yX9_lay : MethodName := ⟨RX9, "lay", "(III)I"⟩
abbrev cX9_ask : ByteArray := prog_1_method_36_code
def yX9_ask : MethodName := ⟨RX9, "ask", "(II)I"⟩
abbrev cX9_item : ByteArray := prog_1_method_37_code
def yX9_item : MethodName := ⟨RX9, "item", "(II)I"⟩
abbrev cX9_rest : ByteArray := prog_1_method_38_code
def yX9_rest : MethodName := ⟨RX9, "rest", "(II)I"⟩
abbrev cX9_tell : ByteArray := prog_1_method_39_code
def yX9_tell : MethodName := ⟨RX9, "tell", "(I)I"⟩
abbrev cX9_check : ByteArray := prog_1_method_40_code
def yX9_check : MethodName := ⟨RX9, "check", "(I)I"⟩
abbrev cX9_keep : ByteArray := prog_1_method_41_code
def yX9_keep : MethodName := ⟨RX9, "keep", "()I"⟩
abbrev cX9_back : ByteArray := prog_1_method_42_code
def yX9_back : MethodName := ⟨RX9, "back", "()I"⟩
abbrev cX9_count : ByteArray := prog_1_method_43_code
def yX9_count : MethodName := ⟨RX9, "count", "(I)I"⟩
abbrev cX9_within : ByteArray := prog_1_method_44_code
def yX9_within : MethodName := ⟨RX9, "within", "(III)Z"⟩
abbrev cX9_isCell : ByteArray := prog_1_method_45_code
def yX9_isCell : MethodName := ⟨RX9, "isCell", "(I)Z"⟩
abbrev cX9_isSheet : ByteArray := prog_1_method_46_code
def yX9_isSheet : MethodName := ⟨RX9, "isSheet", "(I)Z"⟩
abbrev cX9_isSlot : ByteArray := prog_1_method_47_code
def yX9_isSlot : MethodName := ⟨RX9, "isSlot", "(I)Z"⟩
abbrev cX9_unlessHeld : ByteArray := prog_1_method_48_code
def yX9_unlessHeld : MethodName := ⟨RX9, "unlessHeld", "(II)I"⟩
abbrev cX9_waited : ByteArray := prog_1_method_49_code
def yX9_waited : MethodName := ⟨RX9, "waited", "(III)Z"⟩
def RX10 : String := "LittlePotModel"
def TX10 : u_T := fun k => match k with
  | 0 => ("LittlePotModel", "s", "[I", true)
  | 1 => ("LittlePotModel", "image", "[I", true)
  | 2 => ("LittlePotModel", "aside", "[I", true)
  | 3 => ("LittlePotModel", "hasImage", "Z", false)
  | 4 => ("LittlePotModel", "tSort", "[I", true)
  | 5 => ("LittlePotModel", "tSize", "[I", true)
  | 6 => ("LittlePotModel", "tNumber", "[I", true)
  | 7 => ("LittlePotModel", "held", "[I", true)
  | 8 => ("LittlePotModel", "heldNumber", "[I", true)
  | 9 => ("LittlePotModel", "heldWorth", "[I", true)
  | 10 => ("LittlePotModel", "heldSize", "[I", true)
  | 11 => ("LittlePotModel", "heldRow", "[I", true)
  | 12 => ("LittlePotModel", "met", "[I", true)
  | 13 => ("LittlePotModel", "steps0", "[I", true)
  | 14 => ("LittlePotModel", "close", "[I", true)
  | 15 => ("LittlePotModel", "tape", "[I", true)
  | 16 => ("LittlePotModel", "taped", "I", false)
  | 17 => ("LittlePotModel", "begin", "I", false)
  | 18 => ("LittlePotModel", "behind", "I", false)
  | 19 => ("LittlePotModel", "token", "I", false)
  | 20 => ("LittlePotModel", "number", "I", false)
  | 21 => ("LittlePotModel", "letter", "I", false)
  | 22 => ("LittlePotModel", "deep", "I", false)
  | 23 => ("LittlePotModel", "turned", "I", false)
  | 24 => ("LittlePotModel", "laid", "I", false)
  | 25 => ("LittlePotModel", "laidAt", "I", false)
  | 26 => ("LittlePotModel", "said", "I", false)
  | 27 => ("LittlePotModel", "named", "[I", true)
  | 28 => ("LittlePotModel", "pile", "[I", true)
  | 29 => ("LittlePotModel", "carried", "[I", true)
  | 30 => ("LittlePotModel", "waits", "[I", true)
  | 31 => ("LittlePotModel", "waiting", "I", false)
  | _ => ("LittlePotModel", "rowDue", "[I", true)
def tyX10 : Nat → FieldType := fun k => match k with
  | 0 => .array .int
  | 1 => .array .int
  | 2 => .array .int
  | 3 => .boolean
  | 4 => .array .int
  | 5 => .array .int
  | 6 => .array .int
  | 7 => .array .int
  | 8 => .array .int
  | 9 => .array .int
  | 10 => .array .int
  | 11 => .array .int
  | 12 => .array .int
  | 13 => .array .int
  | 14 => .array .int
  | 15 => .array .int
  | 16 => .int
  | 17 => .int
  | 18 => .int
  | 19 => .int
  | 20 => .int
  | 21 => .int
  | 22 => .int
  | 23 => .int
  | 24 => .int
  | 25 => .int
  | 26 => .int
  | 27 => .array .int
  | 28 => .array .int
  | 29 => .array .int
  | 30 => .array .int
  | 31 => .int
  | _ => .array .int
theorem nmX10 : ∀ a, a < 33 → ∀ b, b < 33 → a ≠ b → (TX10 a).2.1 ≠ (TX10 b).2.1 := by decide +kernel
theorem tyX10_ok : ∀ k, k < 33 → parseFieldDescriptor (TX10 k).2.2.1 = some (tyX10 k) := by decide +kernel
abbrev cX10_init : ByteArray := prog_12_method_1_code
def yX10_init : MethodName := ⟨RX10, "<init>", "()V"⟩
abbrev cX10_isIn : ByteArray := prog_12_method_2_code
def yX10_isIn : MethodName := ⟨RX10, "isIn", "(JJJ)Z"⟩
abbrev cX10_orNone : ByteArray := prog_12_method_3_code
def yX10_orNone : MethodName := ⟨RX10, "orNone", "(I)I"⟩
abbrev cX10_within : ByteArray := prog_12_method_4_code
def yX10_within : MethodName := ⟨RX10, "within", "(II)I"⟩
abbrev cX10_off : ByteArray := prog_12_method_5_code
def yX10_off : MethodName := ⟨RX10, "off", "(II)I"⟩
abbrev cX10_becomes : ByteArray := prog_12_method_6_code
def yX10_becomes : MethodName := ⟨RX10, "becomes", "(II)I"⟩
abbrev cX10_textAt : ByteArray := prog_12_method_7_code
def yX10_textAt : MethodName := ⟨RX10, "textAt", "(I)I"⟩
abbrev cX10_of : ByteArray := prog_12_method_8_code
def yX10_of : MethodName := ⟨RX10, "of", "(II)I"⟩
abbrev cX10_sets : ByteArray := prog_12_method_9_code
def yX10_sets : MethodName := ⟨RX10, "sets", "(III)V"⟩
abbrev cX10_isEater : ByteArray := prog_12_method_10_code
def yX10_isEater : MethodName := ⟨RX10, "isEater", "(I)Z"⟩
abbrev cX10_isCell : ByteArray := prog_12_method_11_code
def yX10_isCell : MethodName := ⟨RX10, "isCell", "(I)Z"⟩
abbrev cX10_isText : ByteArray := prog_12_method_12_code
def yX10_isText : MethodName := ⟨RX10, "isText", "(I)Z"⟩
abbrev cX10_drawn : ByteArray := prog_12_method_13_code
def yX10_drawn : MethodName := ⟨RX10, "drawn", "()I"⟩
abbrev cX10_beside : ByteArray := prog_12_method_14_code
def yX10_beside : MethodName := ⟨RX10, "beside", "(II)I"⟩
abbrev cX10_parts : ByteArray := prog_12_method_15_code
def yX10_parts : MethodName := ⟨RX10, "parts", "(I)I"⟩
abbrev cX10_level : ByteArray := prog_12_method_16_code
def yX10_level : MethodName := ⟨RX10, "level", "(I)I"⟩
abbrev cX10_comes : ByteArray := prog_12_method_17_code
def yX10_comes : MethodName := ⟨RX10, "comes", "(II)V"⟩
abbrev cX10_eater : ByteArray := prog_12_method_18_code
def yX10_eater : MethodName := ⟨RX10, "eater", "(II)I"⟩
abbrev cX10_eats : ByteArray := prog_12_method_19_code
def yX10_eats : MethodName := ⟨RX10, "eats", "(I)I"⟩
abbrev cX10_wades : ByteArray := prog_12_method_20_code
def yX10_wades : MethodName := ⟨RX10, "wades", "(I)I"⟩
abbrev cX10_worth : ByteArray := prog_12_method_21_code
def yX10_worth : MethodName := ⟨RX10, "worth", "(I)I"⟩
abbrev cX10_told : ByteArray := prog_12_method_22_code
def yX10_told : MethodName := ⟨RX10, "told", "(II)I"⟩
abbrev cX10_cell : ByteArray := prog_12_method_23_code
def yX10_cell : MethodName := ⟨RX10, "cell", "(II)I"⟩
abbrev cX10_lays : ByteArray := prog_12_method_24_code
def yX10_lays : MethodName := ⟨RX10, "lays", "(III)I"⟩
abbrev cX10_isOf : ByteArray := prog_12_method_25_code
def yX10_isOf : MethodName := ⟨RX10, "isOf", "(II)Z"⟩
abbrev cX10_as : ByteArray := prog_12_method_26_code
def yX10_as : MethodName := ⟨RX10, "as", "(II)I"⟩
abbrev cX10_turns : ByteArray := prog_12_method_27_code
def yX10_turns : MethodName := ⟨RX10, "turns", "(II)I"⟩
abbrev cX10_sends : ByteArray := prog_12_method_28_code
def yX10_sends : MethodName := ⟨RX10, "sends", "(II)I"⟩
abbrev cX10_cook : ByteArray := prog_12_method_29_code
def yX10_cook : MethodName := ⟨RX10, "cook", "(I)I"⟩
abbrev cX10_say : ByteArray := prog_12_method_30_code
def yX10_say : MethodName := ⟨RX10, "say", "(I)I"⟩
abbrev cX10_mostRule : ByteArray := prog_12_method_31_code
def yX10_mostRule : MethodName := ⟨RX10, "mostRule", "(I)I"⟩
abbrev cX10_rule : ByteArray := prog_12_method_32_code
def yX10_rule : MethodName := ⟨RX10, "rule", "(II)I"⟩
abbrev cX10_deal : ByteArray := prog_12_method_33_code
def yX10_deal : MethodName := ⟨RX10, "deal", "(I)I"⟩
abbrev cX10_seed : ByteArray := prog_12_method_34_code
def yX10_seed : MethodName := ⟨RX10, "seed", "(I)I"⟩
abbrev cX10_pours : ByteArray := prog_12_method_35_code
def yX10_pours : MethodName := ⟨RX10, "pours", "()I"⟩
abbrev cX10_flows : ByteArray := prog_12_method_36_code
def yX10_flows : MethodName := ⟨RX10, "flows", "(I)V"⟩
abbrev cX10_dines : ByteArray := prog_12_method_37_code
def yX10_dines : MethodName := ⟨RX10, "dines", "(I)I"⟩
abbrev cX10_goesOn : ByteArray := prog_12_method_38_code
def yX10_goesOn : MethodName := ⟨RX10, "goesOn", "()I"⟩
abbrev cX10_goesOnMany : ByteArray := prog_12_method_39_code
def yX10_goesOnMany : MethodName := ⟨RX10, "goesOnMany", "(I)V"⟩
abbrev cX10_minutes : ByteArray := prog_12_method_40_code
def yX10_minutes : MethodName := ⟨RX10, "minutes", "(I)I"⟩
abbrev cX10_allParts : ByteArray := prog_12_method_41_code
def yX10_allParts : MethodName := ⟨RX10, "allParts", "()I"⟩
abbrev cX10_allAte : ByteArray := prog_12_method_42_code
def yX10_allAte : MethodName := ⟨RX10, "allAte", "()I"⟩
abbrev cX10_manyWet : ByteArray := prog_12_method_43_code
def yX10_manyWet : MethodName := ⟨RX10, "manyWet", "()I"⟩
abbrev cX10_town : ByteArray := prog_12_method_44_code
def yX10_town : MethodName := ⟨RX10, "town", "(I)I"⟩
abbrev cX10_path : ByteArray := prog_12_method_45_code
def yX10_path : MethodName := ⟨RX10, "path", "(III)I"⟩
abbrev cX10_laysBy : ByteArray := prog_12_method_46_code
def yX10_laysBy : MethodName := ⟨RX10, "laysBy", "()V"⟩
abbrev cX10_laysBack : ByteArray := prog_12_method_47_code
def yX10_laysBack : MethodName := ⟨RX10, "laysBack", "()V"⟩
abbrev cX10_behind : ByteArray := prog_12_method_48_code
def yX10_behind : MethodName := ⟨RX10, "behind", "(II)I"⟩
abbrev cX10_wets : ByteArray := prog_12_method_49_code
def yX10_wets : MethodName := ⟨RX10, "wets", "(I)I"⟩
abbrev cX10_deepest : ByteArray := prog_12_method_50_code
def yX10_deepest : MethodName := ⟨RX10, "deepest", "(II)I"⟩
abbrev cX10_walled : ByteArray := prog_12_method_51_code
def yX10_walled : MethodName := ⟨RX10, "walled", "(III)I"⟩
abbrev cX10_enough : ByteArray := prog_12_method_52_code
def yX10_enough : MethodName := ⟨RX10, "enough", "(II)I"⟩
abbrev cX10_fee : ByteArray := prog_12_method_53_code
def yX10_fee : MethodName := ⟨RX10, "fee", "()I"⟩
abbrev cX10_fine : ByteArray := prog_12_method_54_code
def yX10_fine : MethodName := ⟨RX10, "fine", "(I)I"⟩
abbrev cX10_feed : ByteArray := prog_12_method_55_code
def yX10_feed : MethodName := ⟨RX10, "feed", "(III)I"⟩
abbrev cX10_trim : ByteArray := prog_12_method_56_code
def yX10_trim : MethodName := ⟨RX10, "trim", "(I)I"⟩
abbrev cX10_isLetter : ByteArray := prog_12_method_57_code
def yX10_isLetter : MethodName := ⟨RX10, "isLetter", "(I)Z"⟩
abbrev cX10_isDigit : ByteArray := prog_12_method_58_code
def yX10_isDigit : MethodName := ⟨RX10, "isDigit", "(I)Z"⟩
abbrev cX10_nextToken : ByteArray := prog_12_method_59_code
def yX10_nextToken : MethodName := ⟨RX10, "nextToken", "()V"⟩
abbrev cX10_isSign : ByteArray := prog_12_method_60_code
def yX10_isSign : MethodName := ⟨RX10, "isSign", "(I)Z"⟩
abbrev cX10_isWordAt : ByteArray := prog_12_method_61_code
def yX10_isWordAt : MethodName := ⟨RX10, "isWordAt", "(IIII)Z"⟩
abbrev cX10_key : ByteArray := prog_12_method_62_code
def yX10_key : MethodName := ⟨RX10, "key", "()I"⟩
abbrev cX10_isName : ByteArray := prog_12_method_63_code
def yX10_isName : MethodName := ⟨RX10, "isName", "(II)Z"⟩
abbrev cX10_step : ByteArray := prog_12_method_64_code
def yX10_step : MethodName := ⟨RX10, "step", "(II)V"⟩
abbrev cX10_either : ByteArray := prog_12_method_65_code
def yX10_either : MethodName := ⟨RX10, "either", "(I)Z"⟩
abbrev cX10_both : ByteArray := prog_12_method_66_code
def yX10_both : MethodName := ⟨RX10, "both", "(I)Z"⟩
abbrev cX10_test : ByteArray := prog_12_method_67_code
def yX10_test : MethodName := ⟨RX10, "test", "(I)Z"⟩
abbrev cX10_sum : ByteArray := prog_12_method_68_code
def yX10_sum : MethodName := ⟨RX10, "sum", "(I)Z"⟩
abbrev cX10_term : ByteArray := prog_12_method_69_code
def yX10_term : MethodName := ⟨RX10, "term", "(I)Z"⟩
abbrev cX10_part0 : ByteArray := prog_12_method_70_code
def yX10_part0 : MethodName := ⟨RX10, "part0", "(I)Z"⟩
abbrev cX10_parse : ByteArray := prog_12_method_71_code
def yX10_parse : MethodName := ⟨RX10, "parse", "()I"⟩
abbrev cX10_text : ByteArray := prog_12_method_72_code
def yX10_text : MethodName := ⟨RX10, "text", "()I"⟩
abbrev cX10_textTold : ByteArray := prog_12_method_73_code
def yX10_textTold : MethodName := ⟨RX10, "textTold", "(II)I"⟩
abbrev cX10_counts : ByteArray := prog_12_method_74_code
def yX10_counts : MethodName := ⟨RX10, "counts", "(I)I"⟩
abbrev cX10_why : ByteArray := prog_12_method_75_code
def yX10_why : MethodName := ⟨RX10, "why", "(I)I"⟩
abbrev cX10_joined : ByteArray := prog_12_method_76_code
def yX10_joined : MethodName := ⟨RX10, "joined", "(III)I"⟩
abbrev cX10_worked : ByteArray := prog_12_method_77_code
def yX10_worked : MethodName := ⟨RX10, "worked", "(I)I"⟩
abbrev cX10_isSheet : ByteArray := prog_12_method_78_code
def yX10_isSheet : MethodName := ⟨RX10, "isSheet", "(I)Z"⟩
abbrev cX10_sheet : ByteArray := prog_12_method_79_code
def yX10_sheet : MethodName := ⟨RX10, "sheet", "(III)I"⟩
abbrev cX10_mark : ByteArray := prog_12_method_80_code
def yX10_mark : MethodName := ⟨RX10, "mark", "(III)I"⟩
abbrev cX10_pour : ByteArray := prog_12_method_81_code
def yX10_pour : MethodName := ⟨RX10, "pour", "(I)I"⟩
abbrev cX10_reads : ByteArray := prog_12_method_82_code
def yX10_reads : MethodName := ⟨RX10, "reads", "(I)I"⟩
abbrev cX10_stood : ByteArray := prog_12_method_83_code
def yX10_stood : MethodName := ⟨RX10, "stood", "(III)I"⟩
abbrev cX10_copy : ByteArray := prog_12_method_84_code
def yX10_copy : MethodName := ⟨RX10, "copy", "(IIIII)I"⟩
abbrev cX10_isSlot : ByteArray := prog_12_method_85_code
def yX10_isSlot : MethodName := ⟨RX10, "isSlot", "(I)Z"⟩
abbrev cX10_lay : ByteArray := prog_12_method_86_code
def yX10_lay : MethodName := ⟨RX10, "lay", "(III)I"⟩
abbrev cX10_ask : ByteArray := prog_12_method_87_code
def yX10_ask : MethodName := ⟨RX10, "ask", "(II)I"⟩
abbrev cX10_item : ByteArray := prog_12_method_88_code
def yX10_item : MethodName := ⟨RX10, "item", "(II)I"⟩
abbrev cX10_rest : ByteArray := prog_12_method_89_code
def yX10_rest : MethodName := ⟨RX10, "rest", "(II)I"⟩
abbrev cX10_tell : ByteArray := prog_12_method_90_code
def yX10_tell : MethodName := ⟨RX10, "tell", "(I)I"⟩
abbrev cX10_setAside : ByteArray := prog_12_method_91_code
def yX10_setAside : MethodName := ⟨RX10, "setAside", "([I[I)V"⟩
abbrev cX10_check : ByteArray := prog_12_method_92_code
def yX10_check : MethodName := ⟨RX10, "check", "(I)I"⟩
abbrev cX10_keep : ByteArray := prog_12_method_93_code
def yX10_keep : MethodName := ⟨RX10, "keep", "()I"⟩
abbrev cX10_back : ByteArray := prog_12_method_94_code
def yX10_back : MethodName := ⟨RX10, "back", "()I"⟩
abbrev cX10_count : ByteArray := prog_12_method_95_code
def yX10_count : MethodName := ⟨RX10, "count", "(I)I"⟩
def RJ11 : String := "java/lang/Character"
def TJ11 : u_T := fun k => match k with
  | _ => ("", "", "", false)
def tyJ11 : Nat → FieldType := fun k => match k with
  | _ => .int
abbrev cJ11_isValidCodePoint_9a6ad : ByteArray := prog_13_method_11_code
def yJ11_isValidCodePoint_9a6ad : MethodName := ⟨RJ11, "isValidCodePoint", "(I)Z"⟩
abbrev cJ11_highSurrogate_5068e : ByteArray := prog_13_method_28_code
def yJ11_highSurrogate_5068e : MethodName := ⟨RJ11, "highSurrogate", "(I)C"⟩
abbrev cJ11_lowSurrogate_5068e : ByteArray := prog_13_method_29_code
def yJ11_lowSurrogate_5068e : MethodName := ⟨RJ11, "lowSurrogate", "(I)C"⟩
def RJ9 : String := "java/lang/Math"
def TJ9 : u_T := fun k => match k with
  | _ => ("", "", "", false)
def tyJ9 : Nat → FieldType := fun k => match k with
  | _ => .int
abbrev cJ9_abs_0f7a4 : ByteArray := prog_14_method_59_code
def yJ9_abs_0f7a4 : MethodName := ⟨RJ9, "abs", "(I)I"⟩
abbrev cJ9_max_7cf53 : ByteArray := prog_14_method_65_code
def yJ9_max_7cf53 : MethodName := ⟨RJ9, "max", "(II)I"⟩
abbrev cJ9_min_7cf53 : ByteArray := prog_14_method_69_code
def yJ9_min_7cf53 : MethodName := ⟨RJ9, "min", "(II)I"⟩
def RJ0 : String := "java/lang/String"
def TJ0 : u_T := fun k => match k with
  | _ => ("", "", "", false)
def tyJ0 : Nat → FieldType := fun k => match k with
  | _ => .int
abbrev cJ0_length_8abf5 : ByteArray := prog_15_method_54_code
def yJ0_length_8abf5 : MethodName := ⟨RJ0, "length", "()I"⟩
abbrev cJ0_charAt_5068e : ByteArray := prog_15_method_56_code
def yJ0_charAt_5068e : MethodName := ⟨RJ0, "charAt", "(I)C"⟩
abbrev cJ0_indexOf_0f7a4 : ByteArray := prog_15_method_79_code
def yJ0_indexOf_0f7a4 : MethodName := ⟨RJ0, "indexOf", "(I)I"⟩
abbrev cJ0_indexOf_7cf53 : ByteArray := prog_15_method_80_code
def yJ0_indexOf_7cf53 : MethodName := ⟨RJ0, "indexOf", "(II)I"⟩
abbrev cJ0_coder_7d493 : ByteArray := prog_15_method_152_code
def yJ0_coder_7d493 : MethodName := ⟨RJ0, "coder", "()B"⟩
abbrev cJ0_isLatin1_aae02 : ByteArray := prog_15_method_154_code
def yJ0_isLatin1_aae02 : MethodName := ⟨RJ0, "isLatin1", "()Z"⟩
abbrev cJ0_checkIndex_df160 : ByteArray := prog_15_method_155_code
def yJ0_checkIndex_df160 : MethodName := ⟨RJ0, "checkIndex", "(II)V"⟩
abbrev cJ0_checkBoundsBeginEnd_23922 : ByteArray := prog_15_method_158_code
def yJ0_checkBoundsBeginEnd_23922 : MethodName := ⟨RJ0, "checkBoundsBeginEnd", "(III)V"⟩
def RJ1 : String := "java/lang/StringLatin1"
def TJ1 : u_T := fun k => match k with
  | _ => ("", "", "", false)
def tyJ1 : Nat → FieldType := fun k => match k with
  | _ => .int
abbrev cJ1_charAt_3b067 : ByteArray := prog_16_method_2_code
def yJ1_charAt_3b067 : MethodName := ⟨RJ1, "charAt", "([BI)C"⟩
abbrev cJ1_canEncode_9a6ad : ByteArray := prog_16_method_4_code
def yJ1_canEncode_9a6ad : MethodName := ⟨RJ1, "canEncode", "(I)Z"⟩
abbrev cJ1_indexOf_4cfef : ByteArray := prog_16_method_22_code
def yJ1_indexOf_4cfef : MethodName := ⟨RJ1, "indexOf", "([BIII)I"⟩
abbrev cJ1_indexOfChar_4cfef : ByteArray := prog_16_method_23_code
def yJ1_indexOfChar_4cfef : MethodName := ⟨RJ1, "indexOfChar", "([BIII)I"⟩
def RJ2 : String := "java/lang/StringUTF16"
def TJ2 : u_T := fun k => match k with
  | _ => ("", "", "", false)
def tyJ2 : Nat → FieldType := fun k => match k with
  | _ => .int
abbrev cJ2_getChar_3b067 : ByteArray := prog_17_method_5_code
def yJ2_getChar_3b067 : MethodName := ⟨RJ2, "getChar", "([BI)C"⟩
abbrev cJ2_length_9d52b : ByteArray := prog_17_method_6_code
def yJ2_length_9d52b : MethodName := ⟨RJ2, "length", "([B)I"⟩
abbrev cJ2_indexOf_4cfef : ByteArray := prog_17_method_40_code
def yJ2_indexOf_4cfef : MethodName := ⟨RJ2, "indexOf", "([BIII)I"⟩
abbrev cJ2_indexOfChar_4cfef : ByteArray := prog_17_method_47_code
def yJ2_indexOfChar_4cfef : MethodName := ⟨RJ2, "indexOfChar", "([BIII)I"⟩
abbrev cJ2_indexOfCharUnsafe_4cfef : ByteArray := prog_17_method_48_code
def yJ2_indexOfCharUnsafe_4cfef : MethodName := ⟨RJ2, "indexOfCharUnsafe", "([BIII)I"⟩
abbrev cJ2_indexOfSupplementary_4cfef : ByteArray := prog_17_method_49_code
def yJ2_indexOfSupplementary_4cfef : MethodName := ⟨RJ2, "indexOfSupplementary", "([BIII)I"⟩
abbrev cJ2_charAt_3b067 : ByteArray := prog_17_method_83_code
def yJ2_charAt_3b067 : MethodName := ⟨RJ2, "charAt", "([BI)C"⟩
abbrev cJ2_checkIndex_2214a : ByteArray := prog_17_method_91_code
def yJ2_checkIndex_2214a : MethodName := ⟨RJ2, "checkIndex", "(I[B)V"⟩
abbrev cJ2_checkBoundsBeginEnd_d044e : ByteArray := prog_17_method_93_code
def yJ2_checkBoundsBeginEnd_d044e : MethodName := ⟨RJ2, "checkBoundsBeginEnd", "(II[B)V"⟩
def RJ10 : String := "java/lang/System"
def TJ10 : u_T := fun k => match k with
  | _ => ("", "", "", false)
def tyJ10 : Nat → FieldType := fun k => match k with
  | _ => .int
def RJ3 : String := "jdk/internal/util/Preconditions"
def TJ3 : u_T := fun k => match k with
  | _ => ("", "", "", false)
def tyJ3 : Nat → FieldType := fun k => match k with
  | _ => .int
abbrev cJ3_checkIndex_8e157 : ByteArray := prog_19_method_11_code
def yJ3_checkIndex_8e157 : MethodName := ⟨RJ3, "checkIndex", "(IILjava/util/function/BiFunction;)I"⟩
abbrev cJ3_checkFromToIndex_8c36e : ByteArray := prog_19_method_12_code
def yJ3_checkFromToIndex_8c36e : MethodName := ⟨RJ3, "checkFromToIndex", "(IIILjava/util/function/BiFunction;)I"⟩
def RL : String := "LittlePotLaw"
abbrev cL_law : ByteArray := code
def yL_law : MethodName := ⟨RL, "law", "([I)Z"⟩
