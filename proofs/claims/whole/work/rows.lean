section
/-- a private method of a class that the tables say can be made, by its rows of tables_1 -/
def lw_okq (q : MethodName × Nat) : Prop := (q.1.cls ≠ "java/lang/invoke/MethodHandle" ∧ q.1.cls ≠ "java/lang/invoke/VarHandle") ∧ Cond.instantiable q.1.cls q.2 ∈ tables_1 ∧ Cond.privateMethod q.1 ∈ tables_1 ∧ Cond.instanceMethod q.1 ∈ tables_1
theorem lw_p0 : lw_okq (⟨"LittlePot$Town", "flows", "(I)V"⟩, 14) := ⟨⟨by decide +kernel, by decide +kernel⟩, List.mem_of_getElem? (i := 44) (by decide +kernel), List.mem_of_getElem? (i := 418) (by decide +kernel), List.mem_of_getElem? (i := 419) (by decide +kernel)⟩
theorem lw_p1 : lw_okq (⟨"LittlePot$Town", "feasts", "(I)V"⟩, 14) := ⟨⟨by decide +kernel, by decide +kernel⟩, List.mem_of_getElem? (i := 44) (by decide +kernel), List.mem_of_getElem? (i := 429) (by decide +kernel), List.mem_of_getElem? (i := 430) (by decide +kernel)⟩
theorem lw_p2 : lw_okq (⟨"LittlePot$Town", "fullestBeside", "(II)I"⟩, 14) := ⟨⟨by decide +kernel, by decide +kernel⟩, List.mem_of_getElem? (i := 44) (by decide +kernel), List.mem_of_getElem? (i := 435) (by decide +kernel), List.mem_of_getElem? (i := 436) (by decide +kernel)⟩
theorem lw_p3 : lw_okq (⟨"LittlePot$Town", "miceEat", "()V"⟩, 14) := ⟨⟨by decide +kernel, by decide +kernel⟩, List.mem_of_getElem? (i := 44) (by decide +kernel), List.mem_of_getElem? (i := 439) (by decide +kernel), List.mem_of_getElem? (i := 440) (by decide +kernel)⟩
theorem lw_p4 : lw_okq (⟨"LittlePot$Reader", "goesOn", "()V"⟩, 8) := ⟨⟨by decide +kernel, by decide +kernel⟩, List.mem_of_getElem? (i := 106) (by decide +kernel), List.mem_of_getElem? (i := 551) (by decide +kernel), List.mem_of_getElem? (i := 552) (by decide +kernel)⟩
theorem lw_p5 : lw_okq (⟨"LittlePot$Reader", "isLetter", "(I)Z"⟩, 8) := ⟨⟨by decide +kernel, by decide +kernel⟩, List.mem_of_getElem? (i := 106) (by decide +kernel), List.mem_of_getElem? (i := 555) (by decide +kernel), List.mem_of_getElem? (i := 556) (by decide +kernel)⟩
theorem lw_p6 : lw_okq (⟨"LittlePot$Reader", "isDigit", "(I)Z"⟩, 8) := ⟨⟨by decide +kernel, by decide +kernel⟩, List.mem_of_getElem? (i := 106) (by decide +kernel), List.mem_of_getElem? (i := 560) (by decide +kernel), List.mem_of_getElem? (i := 561) (by decide +kernel)⟩
theorem lw_p7 : lw_okq (⟨"LittlePot$Reader", "keyHere", "()I"⟩, 8) := ⟨⟨by decide +kernel, by decide +kernel⟩, List.mem_of_getElem? (i := 106) (by decide +kernel), List.mem_of_getElem? (i := 564) (by decide +kernel), List.mem_of_getElem? (i := 565) (by decide +kernel)⟩
theorem lw_p8 : lw_okq (⟨"LittlePot$Reader", "isWord", "(Ljava/lang/String;)Z"⟩, 8) := ⟨⟨by decide +kernel, by decide +kernel⟩, List.mem_of_getElem? (i := 106) (by decide +kernel), List.mem_of_getElem? (i := 569) (by decide +kernel), List.mem_of_getElem? (i := 570) (by decide +kernel)⟩
theorem lw_p9 : lw_okq (⟨"LittlePot$Reader", "readsOr", "()Z"⟩, 8) := ⟨⟨by decide +kernel, by decide +kernel⟩, List.mem_of_getElem? (i := 106) (by decide +kernel), List.mem_of_getElem? (i := 627) (by decide +kernel), List.mem_of_getElem? (i := 628) (by decide +kernel)⟩
theorem lw_p10 : lw_okq (⟨"LittlePot$Reader", "readsAnd", "()Z"⟩, 8) := ⟨⟨by decide +kernel, by decide +kernel⟩, List.mem_of_getElem? (i := 106) (by decide +kernel), List.mem_of_getElem? (i := 631) (by decide +kernel), List.mem_of_getElem? (i := 632) (by decide +kernel)⟩
theorem lw_p11 : lw_okq (⟨"LittlePot$Reader", "readsTest", "()Z"⟩, 8) := ⟨⟨by decide +kernel, by decide +kernel⟩, List.mem_of_getElem? (i := 106) (by decide +kernel), List.mem_of_getElem? (i := 635) (by decide +kernel), List.mem_of_getElem? (i := 636) (by decide +kernel)⟩
theorem lw_p12 : lw_okq (⟨"LittlePot$Reader", "readsSum", "()Z"⟩, 8) := ⟨⟨by decide +kernel, by decide +kernel⟩, List.mem_of_getElem? (i := 106) (by decide +kernel), List.mem_of_getElem? (i := 639) (by decide +kernel), List.mem_of_getElem? (i := 640) (by decide +kernel)⟩
theorem lw_p13 : lw_okq (⟨"LittlePot$Reader", "readsTerm", "()Z"⟩, 8) := ⟨⟨by decide +kernel, by decide +kernel⟩, List.mem_of_getElem? (i := 106) (by decide +kernel), List.mem_of_getElem? (i := 643) (by decide +kernel), List.mem_of_getElem? (i := 644) (by decide +kernel)⟩
theorem lw_p14 : lw_okq (⟨"LittlePot$Reader", "readsPiece", "()Z"⟩, 8) := ⟨⟨by decide +kernel, by decide +kernel⟩, List.mem_of_getElem? (i := 106) (by decide +kernel), List.mem_of_getElem? (i := 647) (by decide +kernel), List.mem_of_getElem? (i := 648) (by decide +kernel)⟩
theorem lw_p15 : lw_okq (⟨"LittlePot$Reader", "isSign", "(C)Z"⟩, 8) := ⟨⟨by decide +kernel, by decide +kernel⟩, List.mem_of_getElem? (i := 106) (by decide +kernel), List.mem_of_getElem? (i := 651) (by decide +kernel), List.mem_of_getElem? (i := 652) (by decide +kernel)⟩
def lw_privs_1 : List (MethodName × Nat) := [(⟨"LittlePot$Town", "flows", "(I)V"⟩, 14), (⟨"LittlePot$Town", "feasts", "(I)V"⟩, 14), (⟨"LittlePot$Town", "fullestBeside", "(II)I"⟩, 14), (⟨"LittlePot$Town", "miceEat", "()V"⟩, 14), (⟨"LittlePot$Reader", "goesOn", "()V"⟩, 8), (⟨"LittlePot$Reader", "isLetter", "(I)Z"⟩, 8), (⟨"LittlePot$Reader", "isDigit", "(I)Z"⟩, 8), (⟨"LittlePot$Reader", "keyHere", "()I"⟩, 8), (⟨"LittlePot$Reader", "isWord", "(Ljava/lang/String;)Z"⟩, 8), (⟨"LittlePot$Reader", "readsOr", "()Z"⟩, 8), (⟨"LittlePot$Reader", "readsAnd", "()Z"⟩, 8), (⟨"LittlePot$Reader", "readsTest", "()Z"⟩, 8), (⟨"LittlePot$Reader", "readsSum", "()Z"⟩, 8), (⟨"LittlePot$Reader", "readsTerm", "()Z"⟩, 8), (⟨"LittlePot$Reader", "readsPiece", "()Z"⟩, 8), (⟨"LittlePot$Reader", "isSign", "(C)Z"⟩, 8)]
theorem lw_r1 : ∀ q ∈ lw_privs_1, lw_okq q := List.forall_mem_cons.mpr ⟨lw_p0, List.forall_mem_cons.mpr ⟨lw_p1, List.forall_mem_cons.mpr ⟨lw_p2, List.forall_mem_cons.mpr ⟨lw_p3, List.forall_mem_cons.mpr ⟨lw_p4, List.forall_mem_cons.mpr ⟨lw_p5, List.forall_mem_cons.mpr ⟨lw_p6, List.forall_mem_cons.mpr ⟨lw_p7, List.forall_mem_cons.mpr ⟨lw_p8, List.forall_mem_cons.mpr ⟨lw_p9, List.forall_mem_cons.mpr ⟨lw_p10, List.forall_mem_cons.mpr ⟨lw_p11, List.forall_mem_cons.mpr ⟨lw_p12, List.forall_mem_cons.mpr ⟨lw_p13, List.forall_mem_cons.mpr ⟨lw_p14, List.forall_mem_cons.mpr ⟨lw_p15, fun _ h => absurd h List.not_mem_nil⟩⟩⟩⟩⟩⟩⟩⟩⟩⟩⟩⟩⟩⟩⟩⟩
theorem lw_p16 : lw_okq (⟨"LittlePot$Reader", "readsNot", "()Z"⟩, 8) := ⟨⟨by decide +kernel, by decide +kernel⟩, List.mem_of_getElem? (i := 106) (by decide +kernel), List.mem_of_getElem? (i := 655) (by decide +kernel), List.mem_of_getElem? (i := 656) (by decide +kernel)⟩
theorem lw_p17 : lw_okq (⟨"LittlePot$Reader", "readsParen", "()Z"⟩, 8) := ⟨⟨by decide +kernel, by decide +kernel⟩, List.mem_of_getElem? (i := 106) (by decide +kernel), List.mem_of_getElem? (i := 663) (by decide +kernel), List.mem_of_getElem? (i := 664) (by decide +kernel)⟩
theorem lw_p18 : lw_okq (⟨"LittlePot$Reader", "nameHere", "()I"⟩, 8) := ⟨⟨by decide +kernel, by decide +kernel⟩, List.mem_of_getElem? (i := 106) (by decide +kernel), List.mem_of_getElem? (i := 667) (by decide +kernel), List.mem_of_getElem? (i := 668) (by decide +kernel)⟩
theorem lw_p19 : lw_okq (⟨"LittlePot$Reader", "numberHere", "()I"⟩, 8) := ⟨⟨by decide +kernel, by decide +kernel⟩, List.mem_of_getElem? (i := 106) (by decide +kernel), List.mem_of_getElem? (i := 729) (by decide +kernel), List.mem_of_getElem? (i := 730) (by decide +kernel)⟩
theorem lw_p20 : lw_okq (⟨"LittlePot", "unlessHeld", "(II)I"⟩, 12) := ⟨⟨by decide +kernel, by decide +kernel⟩, List.mem_of_getElem? (i := 20) (by decide +kernel), List.mem_of_getElem? (i := 813) (by decide +kernel), List.mem_of_getElem? (i := 814) (by decide +kernel)⟩
theorem lw_p21 : lw_okq (⟨"LittlePot", "waited", "(III)Z"⟩, 12) := ⟨⟨by decide +kernel, by decide +kernel⟩, List.mem_of_getElem? (i := 20) (by decide +kernel), List.mem_of_getElem? (i := 834) (by decide +kernel), List.mem_of_getElem? (i := 835) (by decide +kernel)⟩
theorem lw_p22 : lw_okq (⟨"LittlePotModel", "comes", "(II)V"⟩, 33) := ⟨⟨by decide +kernel, by decide +kernel⟩, List.mem_of_getElem? (i := 850) (by decide +kernel), List.mem_of_getElem? (i := 970) (by decide +kernel), List.mem_of_getElem? (i := 971) (by decide +kernel)⟩
theorem lw_p23 : lw_okq (⟨"LittlePotModel", "sets", "(III)V"⟩, 33) := ⟨⟨by decide +kernel, by decide +kernel⟩, List.mem_of_getElem? (i := 850) (by decide +kernel), List.mem_of_getElem? (i := 974) (by decide +kernel), List.mem_of_getElem? (i := 975) (by decide +kernel)⟩
theorem lw_p24 : lw_okq (⟨"LittlePotModel", "isEater", "(I)Z"⟩, 33) := ⟨⟨by decide +kernel, by decide +kernel⟩, List.mem_of_getElem? (i := 850) (by decide +kernel), List.mem_of_getElem? (i := 982) (by decide +kernel), List.mem_of_getElem? (i := 983) (by decide +kernel)⟩
theorem lw_p25 : lw_okq (⟨"LittlePotModel", "of", "(II)I"⟩, 33) := ⟨⟨by decide +kernel, by decide +kernel⟩, List.mem_of_getElem? (i := 850) (by decide +kernel), List.mem_of_getElem? (i := 986) (by decide +kernel), List.mem_of_getElem? (i := 987) (by decide +kernel)⟩
theorem lw_p26 : lw_okq (⟨"LittlePotModel", "eats", "(I)I"⟩, 33) := ⟨⟨by decide +kernel, by decide +kernel⟩, List.mem_of_getElem? (i := 850) (by decide +kernel), List.mem_of_getElem? (i := 990) (by decide +kernel), List.mem_of_getElem? (i := 991) (by decide +kernel)⟩
theorem lw_p27 : lw_okq (⟨"LittlePotModel", "parts", "(I)I"⟩, 33) := ⟨⟨by decide +kernel, by decide +kernel⟩, List.mem_of_getElem? (i := 850) (by decide +kernel), List.mem_of_getElem? (i := 994) (by decide +kernel), List.mem_of_getElem? (i := 995) (by decide +kernel)⟩
theorem lw_p28 : lw_okq (⟨"LittlePotModel", "wades", "(I)I"⟩, 33) := ⟨⟨by decide +kernel, by decide +kernel⟩, List.mem_of_getElem? (i := 850) (by decide +kernel), List.mem_of_getElem? (i := 998) (by decide +kernel), List.mem_of_getElem? (i := 999) (by decide +kernel)⟩
theorem lw_p29 : lw_okq (⟨"LittlePotModel", "worth", "(I)I"⟩, 33) := ⟨⟨by decide +kernel, by decide +kernel⟩, List.mem_of_getElem? (i := 850) (by decide +kernel), List.mem_of_getElem? (i := 1002) (by decide +kernel), List.mem_of_getElem? (i := 1003) (by decide +kernel)⟩
theorem lw_p30 : lw_okq (⟨"LittlePotModel", "level", "(I)I"⟩, 33) := ⟨⟨by decide +kernel, by decide +kernel⟩, List.mem_of_getElem? (i := 850) (by decide +kernel), List.mem_of_getElem? (i := 1011) (by decide +kernel), List.mem_of_getElem? (i := 1012) (by decide +kernel)⟩
theorem lw_p31 : lw_okq (⟨"LittlePotModel", "becomes", "(II)I"⟩, 33) := ⟨⟨by decide +kernel, by decide +kernel⟩, List.mem_of_getElem? (i := 850) (by decide +kernel), List.mem_of_getElem? (i := 1022) (by decide +kernel), List.mem_of_getElem? (i := 1023) (by decide +kernel)⟩
def lw_privs_2 : List (MethodName × Nat) := [(⟨"LittlePot$Reader", "readsNot", "()Z"⟩, 8), (⟨"LittlePot$Reader", "readsParen", "()Z"⟩, 8), (⟨"LittlePot$Reader", "nameHere", "()I"⟩, 8), (⟨"LittlePot$Reader", "numberHere", "()I"⟩, 8), (⟨"LittlePot", "unlessHeld", "(II)I"⟩, 12), (⟨"LittlePot", "waited", "(III)Z"⟩, 12), (⟨"LittlePotModel", "comes", "(II)V"⟩, 33), (⟨"LittlePotModel", "sets", "(III)V"⟩, 33), (⟨"LittlePotModel", "isEater", "(I)Z"⟩, 33), (⟨"LittlePotModel", "of", "(II)I"⟩, 33), (⟨"LittlePotModel", "eats", "(I)I"⟩, 33), (⟨"LittlePotModel", "parts", "(I)I"⟩, 33), (⟨"LittlePotModel", "wades", "(I)I"⟩, 33), (⟨"LittlePotModel", "worth", "(I)I"⟩, 33), (⟨"LittlePotModel", "level", "(I)I"⟩, 33), (⟨"LittlePotModel", "becomes", "(II)I"⟩, 33)]
theorem lw_r2 : ∀ q ∈ lw_privs_2, lw_okq q := List.forall_mem_cons.mpr ⟨lw_p16, List.forall_mem_cons.mpr ⟨lw_p17, List.forall_mem_cons.mpr ⟨lw_p18, List.forall_mem_cons.mpr ⟨lw_p19, List.forall_mem_cons.mpr ⟨lw_p20, List.forall_mem_cons.mpr ⟨lw_p21, List.forall_mem_cons.mpr ⟨lw_p22, List.forall_mem_cons.mpr ⟨lw_p23, List.forall_mem_cons.mpr ⟨lw_p24, List.forall_mem_cons.mpr ⟨lw_p25, List.forall_mem_cons.mpr ⟨lw_p26, List.forall_mem_cons.mpr ⟨lw_p27, List.forall_mem_cons.mpr ⟨lw_p28, List.forall_mem_cons.mpr ⟨lw_p29, List.forall_mem_cons.mpr ⟨lw_p30, List.forall_mem_cons.mpr ⟨lw_p31, fun _ h => absurd h List.not_mem_nil⟩⟩⟩⟩⟩⟩⟩⟩⟩⟩⟩⟩⟩⟩⟩⟩
theorem lw_p32 : lw_okq (⟨"LittlePotModel", "drawn", "()I"⟩, 33) := ⟨⟨by decide +kernel, by decide +kernel⟩, List.mem_of_getElem? (i := 850) (by decide +kernel), List.mem_of_getElem? (i := 1067) (by decide +kernel), List.mem_of_getElem? (i := 1068) (by decide +kernel)⟩
theorem lw_p33 : lw_okq (⟨"LittlePotModel", "goesOn", "()I"⟩, 33) := ⟨⟨by decide +kernel, by decide +kernel⟩, List.mem_of_getElem? (i := 850) (by decide +kernel), List.mem_of_getElem? (i := 1081) (by decide +kernel), List.mem_of_getElem? (i := 1082) (by decide +kernel)⟩
theorem lw_p34 : lw_okq (⟨"LittlePotModel", "pours", "()I"⟩, 33) := ⟨⟨by decide +kernel, by decide +kernel⟩, List.mem_of_getElem? (i := 850) (by decide +kernel), List.mem_of_getElem? (i := 1085) (by decide +kernel), List.mem_of_getElem? (i := 1086) (by decide +kernel)⟩
theorem lw_p35 : lw_okq (⟨"LittlePotModel", "counts", "(I)I"⟩, 33) := ⟨⟨by decide +kernel, by decide +kernel⟩, List.mem_of_getElem? (i := 850) (by decide +kernel), List.mem_of_getElem? (i := 1089) (by decide +kernel), List.mem_of_getElem? (i := 1090) (by decide +kernel)⟩
theorem lw_p36 : lw_okq (⟨"LittlePotModel", "textAt", "(I)I"⟩, 33) := ⟨⟨by decide +kernel, by decide +kernel⟩, List.mem_of_getElem? (i := 850) (by decide +kernel), List.mem_of_getElem? (i := 1093) (by decide +kernel), List.mem_of_getElem? (i := 1094) (by decide +kernel)⟩
theorem lw_p37 : lw_okq (⟨"LittlePotModel", "worked", "(I)I"⟩, 33) := ⟨⟨by decide +kernel, by decide +kernel⟩, List.mem_of_getElem? (i := 850) (by decide +kernel), List.mem_of_getElem? (i := 1097) (by decide +kernel), List.mem_of_getElem? (i := 1098) (by decide +kernel)⟩
theorem lw_p38 : lw_okq (⟨"LittlePotModel", "flows", "(I)V"⟩, 33) := ⟨⟨by decide +kernel, by decide +kernel⟩, List.mem_of_getElem? (i := 850) (by decide +kernel), List.mem_of_getElem? (i := 1104) (by decide +kernel), List.mem_of_getElem? (i := 1105) (by decide +kernel)⟩
theorem lw_p39 : lw_okq (⟨"LittlePotModel", "dines", "(I)I"⟩, 33) := ⟨⟨by decide +kernel, by decide +kernel⟩, List.mem_of_getElem? (i := 850) (by decide +kernel), List.mem_of_getElem? (i := 1111) (by decide +kernel), List.mem_of_getElem? (i := 1112) (by decide +kernel)⟩
theorem lw_p40 : lw_okq (⟨"LittlePotModel", "allParts", "()I"⟩, 33) := ⟨⟨by decide +kernel, by decide +kernel⟩, List.mem_of_getElem? (i := 850) (by decide +kernel), List.mem_of_getElem? (i := 1119) (by decide +kernel), List.mem_of_getElem? (i := 1120) (by decide +kernel)⟩
theorem lw_p41 : lw_okq (⟨"LittlePotModel", "allAte", "()I"⟩, 33) := ⟨⟨by decide +kernel, by decide +kernel⟩, List.mem_of_getElem? (i := 850) (by decide +kernel), List.mem_of_getElem? (i := 1123) (by decide +kernel), List.mem_of_getElem? (i := 1124) (by decide +kernel)⟩
theorem lw_p42 : lw_okq (⟨"LittlePotModel", "manyWet", "()I"⟩, 33) := ⟨⟨by decide +kernel, by decide +kernel⟩, List.mem_of_getElem? (i := 850) (by decide +kernel), List.mem_of_getElem? (i := 1127) (by decide +kernel), List.mem_of_getElem? (i := 1128) (by decide +kernel)⟩
theorem lw_p43 : lw_okq (⟨"LittlePotModel", "laysBy", "()V"⟩, 33) := ⟨⟨by decide +kernel, by decide +kernel⟩, List.mem_of_getElem? (i := 850) (by decide +kernel), List.mem_of_getElem? (i := 1145) (by decide +kernel), List.mem_of_getElem? (i := 1146) (by decide +kernel)⟩
theorem lw_p44 : lw_okq (⟨"LittlePotModel", "goesOnMany", "(I)V"⟩, 33) := ⟨⟨by decide +kernel, by decide +kernel⟩, List.mem_of_getElem? (i := 850) (by decide +kernel), List.mem_of_getElem? (i := 1149) (by decide +kernel), List.mem_of_getElem? (i := 1150) (by decide +kernel)⟩
theorem lw_p45 : lw_okq (⟨"LittlePotModel", "laysBack", "()V"⟩, 33) := ⟨⟨by decide +kernel, by decide +kernel⟩, List.mem_of_getElem? (i := 850) (by decide +kernel), List.mem_of_getElem? (i := 1153) (by decide +kernel), List.mem_of_getElem? (i := 1154) (by decide +kernel)⟩
theorem lw_p46 : lw_okq (⟨"LittlePotModel", "parse", "()I"⟩, 33) := ⟨⟨by decide +kernel, by decide +kernel⟩, List.mem_of_getElem? (i := 850) (by decide +kernel), List.mem_of_getElem? (i := 1194) (by decide +kernel), List.mem_of_getElem? (i := 1195) (by decide +kernel)⟩
theorem lw_p47 : lw_okq (⟨"LittlePotModel", "nextToken", "()V"⟩, 33) := ⟨⟨by decide +kernel, by decide +kernel⟩, List.mem_of_getElem? (i := 850) (by decide +kernel), List.mem_of_getElem? (i := 1198) (by decide +kernel), List.mem_of_getElem? (i := 1199) (by decide +kernel)⟩
def lw_privs_3 : List (MethodName × Nat) := [(⟨"LittlePotModel", "drawn", "()I"⟩, 33), (⟨"LittlePotModel", "goesOn", "()I"⟩, 33), (⟨"LittlePotModel", "pours", "()I"⟩, 33), (⟨"LittlePotModel", "counts", "(I)I"⟩, 33), (⟨"LittlePotModel", "textAt", "(I)I"⟩, 33), (⟨"LittlePotModel", "worked", "(I)I"⟩, 33), (⟨"LittlePotModel", "flows", "(I)V"⟩, 33), (⟨"LittlePotModel", "dines", "(I)I"⟩, 33), (⟨"LittlePotModel", "allParts", "()I"⟩, 33), (⟨"LittlePotModel", "allAte", "()I"⟩, 33), (⟨"LittlePotModel", "manyWet", "()I"⟩, 33), (⟨"LittlePotModel", "laysBy", "()V"⟩, 33), (⟨"LittlePotModel", "goesOnMany", "(I)V"⟩, 33), (⟨"LittlePotModel", "laysBack", "()V"⟩, 33), (⟨"LittlePotModel", "parse", "()I"⟩, 33), (⟨"LittlePotModel", "nextToken", "()V"⟩, 33)]
theorem lw_r3 : ∀ q ∈ lw_privs_3, lw_okq q := List.forall_mem_cons.mpr ⟨lw_p32, List.forall_mem_cons.mpr ⟨lw_p33, List.forall_mem_cons.mpr ⟨lw_p34, List.forall_mem_cons.mpr ⟨lw_p35, List.forall_mem_cons.mpr ⟨lw_p36, List.forall_mem_cons.mpr ⟨lw_p37, List.forall_mem_cons.mpr ⟨lw_p38, List.forall_mem_cons.mpr ⟨lw_p39, List.forall_mem_cons.mpr ⟨lw_p40, List.forall_mem_cons.mpr ⟨lw_p41, List.forall_mem_cons.mpr ⟨lw_p42, List.forall_mem_cons.mpr ⟨lw_p43, List.forall_mem_cons.mpr ⟨lw_p44, List.forall_mem_cons.mpr ⟨lw_p45, List.forall_mem_cons.mpr ⟨lw_p46, List.forall_mem_cons.mpr ⟨lw_p47, fun _ h => absurd h List.not_mem_nil⟩⟩⟩⟩⟩⟩⟩⟩⟩⟩⟩⟩⟩⟩⟩⟩
theorem lw_p48 : lw_okq (⟨"LittlePotModel", "isLetter", "(I)Z"⟩, 33) := ⟨⟨by decide +kernel, by decide +kernel⟩, List.mem_of_getElem? (i := 850) (by decide +kernel), List.mem_of_getElem? (i := 1202) (by decide +kernel), List.mem_of_getElem? (i := 1203) (by decide +kernel)⟩
theorem lw_p49 : lw_okq (⟨"LittlePotModel", "isDigit", "(I)Z"⟩, 33) := ⟨⟨by decide +kernel, by decide +kernel⟩, List.mem_of_getElem? (i := 850) (by decide +kernel), List.mem_of_getElem? (i := 1208) (by decide +kernel), List.mem_of_getElem? (i := 1209) (by decide +kernel)⟩
theorem lw_p50 : lw_okq (⟨"LittlePotModel", "key", "()I"⟩, 33) := ⟨⟨by decide +kernel, by decide +kernel⟩, List.mem_of_getElem? (i := 850) (by decide +kernel), List.mem_of_getElem? (i := 1214) (by decide +kernel), List.mem_of_getElem? (i := 1215) (by decide +kernel)⟩
theorem lw_p51 : lw_okq (⟨"LittlePotModel", "isWordAt", "(IIII)Z"⟩, 33) := ⟨⟨by decide +kernel, by decide +kernel⟩, List.mem_of_getElem? (i := 850) (by decide +kernel), List.mem_of_getElem? (i := 1218) (by decide +kernel), List.mem_of_getElem? (i := 1219) (by decide +kernel)⟩
theorem lw_p52 : lw_okq (⟨"LittlePotModel", "either", "(I)Z"⟩, 33) := ⟨⟨by decide +kernel, by decide +kernel⟩, List.mem_of_getElem? (i := 850) (by decide +kernel), List.mem_of_getElem? (i := 1222) (by decide +kernel), List.mem_of_getElem? (i := 1223) (by decide +kernel)⟩
theorem lw_p53 : lw_okq (⟨"LittlePotModel", "both", "(I)Z"⟩, 33) := ⟨⟨by decide +kernel, by decide +kernel⟩, List.mem_of_getElem? (i := 850) (by decide +kernel), List.mem_of_getElem? (i := 1226) (by decide +kernel), List.mem_of_getElem? (i := 1227) (by decide +kernel)⟩
theorem lw_p54 : lw_okq (⟨"LittlePotModel", "test", "(I)Z"⟩, 33) := ⟨⟨by decide +kernel, by decide +kernel⟩, List.mem_of_getElem? (i := 850) (by decide +kernel), List.mem_of_getElem? (i := 1230) (by decide +kernel), List.mem_of_getElem? (i := 1231) (by decide +kernel)⟩
theorem lw_p55 : lw_okq (⟨"LittlePotModel", "sum", "(I)Z"⟩, 33) := ⟨⟨by decide +kernel, by decide +kernel⟩, List.mem_of_getElem? (i := 850) (by decide +kernel), List.mem_of_getElem? (i := 1234) (by decide +kernel), List.mem_of_getElem? (i := 1235) (by decide +kernel)⟩
theorem lw_p56 : lw_okq (⟨"LittlePotModel", "term", "(I)Z"⟩, 33) := ⟨⟨by decide +kernel, by decide +kernel⟩, List.mem_of_getElem? (i := 850) (by decide +kernel), List.mem_of_getElem? (i := 1238) (by decide +kernel), List.mem_of_getElem? (i := 1239) (by decide +kernel)⟩
theorem lw_p57 : lw_okq (⟨"LittlePotModel", "part0", "(I)Z"⟩, 33) := ⟨⟨by decide +kernel, by decide +kernel⟩, List.mem_of_getElem? (i := 850) (by decide +kernel), List.mem_of_getElem? (i := 1242) (by decide +kernel), List.mem_of_getElem? (i := 1243) (by decide +kernel)⟩
theorem lw_p58 : lw_okq (⟨"LittlePotModel", "step", "(II)V"⟩, 33) := ⟨⟨by decide +kernel, by decide +kernel⟩, List.mem_of_getElem? (i := 850) (by decide +kernel), List.mem_of_getElem? (i := 1246) (by decide +kernel), List.mem_of_getElem? (i := 1247) (by decide +kernel)⟩
theorem lw_p59 : lw_okq (⟨"LittlePotModel", "isSign", "(I)Z"⟩, 33) := ⟨⟨by decide +kernel, by decide +kernel⟩, List.mem_of_getElem? (i := 850) (by decide +kernel), List.mem_of_getElem? (i := 1253) (by decide +kernel), List.mem_of_getElem? (i := 1254) (by decide +kernel)⟩
theorem lw_p60 : lw_okq (⟨"LittlePotModel", "isText", "(I)Z"⟩, 33) := ⟨⟨by decide +kernel, by decide +kernel⟩, List.mem_of_getElem? (i := 850) (by decide +kernel), List.mem_of_getElem? (i := 1261) (by decide +kernel), List.mem_of_getElem? (i := 1262) (by decide +kernel)⟩
theorem lw_p61 : lw_okq (⟨"LittlePotModel", "setAside", "([I[I)V"⟩, 33) := ⟨⟨by decide +kernel, by decide +kernel⟩, List.mem_of_getElem? (i := 850) (by decide +kernel), List.mem_of_getElem? (i := 1334) (by decide +kernel), List.mem_of_getElem? (i := 1335) (by decide +kernel)⟩
def lw_privs_4 : List (MethodName × Nat) := [(⟨"LittlePotModel", "isLetter", "(I)Z"⟩, 33), (⟨"LittlePotModel", "isDigit", "(I)Z"⟩, 33), (⟨"LittlePotModel", "key", "()I"⟩, 33), (⟨"LittlePotModel", "isWordAt", "(IIII)Z"⟩, 33), (⟨"LittlePotModel", "either", "(I)Z"⟩, 33), (⟨"LittlePotModel", "both", "(I)Z"⟩, 33), (⟨"LittlePotModel", "test", "(I)Z"⟩, 33), (⟨"LittlePotModel", "sum", "(I)Z"⟩, 33), (⟨"LittlePotModel", "term", "(I)Z"⟩, 33), (⟨"LittlePotModel", "part0", "(I)Z"⟩, 33), (⟨"LittlePotModel", "step", "(II)V"⟩, 33), (⟨"LittlePotModel", "isSign", "(I)Z"⟩, 33), (⟨"LittlePotModel", "isText", "(I)Z"⟩, 33), (⟨"LittlePotModel", "setAside", "([I[I)V"⟩, 33)]
theorem lw_r4 : ∀ q ∈ lw_privs_4, lw_okq q := List.forall_mem_cons.mpr ⟨lw_p48, List.forall_mem_cons.mpr ⟨lw_p49, List.forall_mem_cons.mpr ⟨lw_p50, List.forall_mem_cons.mpr ⟨lw_p51, List.forall_mem_cons.mpr ⟨lw_p52, List.forall_mem_cons.mpr ⟨lw_p53, List.forall_mem_cons.mpr ⟨lw_p54, List.forall_mem_cons.mpr ⟨lw_p55, List.forall_mem_cons.mpr ⟨lw_p56, List.forall_mem_cons.mpr ⟨lw_p57, List.forall_mem_cons.mpr ⟨lw_p58, List.forall_mem_cons.mpr ⟨lw_p59, List.forall_mem_cons.mpr ⟨lw_p60, List.forall_mem_cons.mpr ⟨lw_p61, fun _ h => absurd h List.not_mem_nil⟩⟩⟩⟩⟩⟩⟩⟩⟩⟩⟩⟩⟩⟩
def lw_privs : List (MethodName × Nat) := lw_privs_1 ++ (lw_privs_2 ++ (lw_privs_3 ++ (lw_privs_4)))
def lw_tbl : List Cond := k2_sels lw_privs ++ tables_1
theorem lw_privs_ok : ∀ q ∈ lw_privs, lw_okq q := by
  show ∀ q ∈ lw_privs_1 ++ (lw_privs_2 ++ (lw_privs_3 ++ (lw_privs_4))), lw_okq q
  exact List.forall_mem_append.mpr ⟨lw_r1, List.forall_mem_append.mpr ⟨lw_r2, List.forall_mem_append.mpr ⟨lw_r3, lw_r4⟩⟩⟩
def RX0 : String := "LittlePot$Kinds"
def TX0 : u_T := fun k => match k with
  | _ => ("", "", "", false)
def tyX0 : Nat → FieldType := fun k => match k with
  | _ => .int
theorem nmX0 : ∀ a, a < 0 → ∀ b, b < 0 → a ≠ b → (TX0 a).2.1 ≠ (TX0 b).2.1 := by decide +kernel
theorem tyX0_ok : ∀ k, k < 0 → parseFieldDescriptor (TX0 k).2.2.1 = some (tyX0 k) := by decide +kernel
abbrev cX0_isKind : ByteArray := prog_2_method_2_code
def yX0_isKind : MethodName := ⟨RX0, "isKind", "(I)Z"⟩
abbrev cX0_isUnder : ByteArray := prog_2_method_3_code
def yX0_isUnder : MethodName := ⟨RX0, "isUnder", "(II)Z"⟩
abbrev cX0_eats : ByteArray := prog_2_method_4_code
def yX0_eats : MethodName := ⟨RX0, "eats", "(II)I"⟩
abbrev cX0_wades : ByteArray := prog_2_method_5_code
def yX0_wades : MethodName := ⟨RX0, "wades", "(I)I"⟩
abbrev cX0_worth : ByteArray := prog_2_method_6_code
def yX0_worth : MethodName := ⟨RX0, "worth", "(II)I"⟩
abbrev cX0_gluttonWorth : ByteArray := prog_2_method_7_code
def yX0_gluttonWorth : MethodName := ⟨RX0, "gluttonWorth", "(I)I"⟩
abbrev cX0_childWorth : ByteArray := prog_2_method_8_code
def yX0_childWorth : MethodName := ⟨RX0, "childWorth", "(I)I"⟩
def RX1 : String := "LittlePot$Laws"
def TX1 : u_T := fun k => match k with
  | 0 => ("LittlePot$Laws", "texts", "[LLittlePot$Text;", true)
  | _ => ("LittlePot$Laws", "stack", "[I", true)
def tyX1 : Nat → FieldType := fun k => match k with
  | 0 => .array (.object "LittlePot$Text")
  | _ => .array .int
theorem nmX1 : ∀ a, a < 2 → ∀ b, b < 2 → a ≠ b → (TX1 a).2.1 ≠ (TX1 b).2.1 := by decide +kernel
theorem tyX1_ok : ∀ k, k < 2 → parseFieldDescriptor (TX1 k).2.2.1 = some (tyX1 k) := by decide +kernel
abbrev cX1_init : ByteArray := prog_3_method_1_code
def yX1_init : MethodName := ⟨RX1, "<init>", "()V"⟩
abbrev cX1_takes : ByteArray := prog_3_method_2_code
def yX1_takes : MethodName := ⟨RX1, "takes", "(ILLittlePot$Text;)LLittlePot$Text;"⟩
abbrev cX1_numbered : ByteArray := prog_3_method_3_code
def yX1_numbered : MethodName := ⟨RX1, "numbered", "(I)LLittlePot$Text;"⟩
abbrev cX1_last : ByteArray := prog_3_method_4_code
def yX1_last : MethodName := ⟨RX1, "last", "(II)I"⟩
abbrev cX1_counting : ByteArray := prog_3_method_5_code
def yX1_counting : MethodName := ⟨RX1, "counting", "(II)LLittlePot$Text;"⟩
abbrev cX1_given : ByteArray := prog_3_method_6_code
def yX1_given : MethodName := ⟨RX1, "given", "(LLittlePot$Text;III)I"⟩
abbrev cX1_joined : ByteArray := prog_3_method_7_code
def yX1_joined : MethodName := ⟨RX1, "joined", "(III)I"⟩
def RX2 : String := "LittlePot$Near"
def TX2 : u_T := fun k => match k with
  | _ => ("", "", "", false)
def tyX2 : Nat → FieldType := fun k => match k with
  | _ => .int
theorem nmX2 : ∀ a, a < 0 → ∀ b, b < 0 → a ≠ b → (TX2 a).2.1 ≠ (TX2 b).2.1 := by decide +kernel
theorem tyX2_ok : ∀ k, k < 0 → parseFieldDescriptor (TX2 k).2.2.1 = some (tyX2 k) := by decide +kernel
abbrev cX2_beside : ByteArray := prog_4_method_2_code
def yX2_beside : MethodName := ⟨RX2, "beside", "(II)I"⟩
def RX3 : String := "LittlePot$Reader"
def TX3 : u_T := fun k => match k with
  | 0 => ("LittlePot$Reader", "draft", "LLittlePot$Text;", false)
  | 1 => ("LittlePot$Reader", "length", "I", false)
  | 2 => ("LittlePot$Reader", "bytes", "[B", true)
  | 3 => ("LittlePot$Reader", "sort", "I", false)
  | 4 => ("LittlePot$Reader", "start", "I", false)
  | 5 => ("LittlePot$Reader", "end", "I", false)
  | 6 => ("LittlePot$Reader", "parens", "I", false)
  | _ => ("LittlePot$Reader", "nots", "I", false)
def tyX3 : Nat → FieldType := fun k => match k with
  | 0 => .object "LittlePot$Text"
  | 1 => .int
  | 2 => .array .byte
  | 3 => .int
  | 4 => .int
  | 5 => .int
  | 6 => .int
  | _ => .int
theorem nmX3 : ∀ a, a < 8 → ∀ b, b < 8 → a ≠ b → (TX3 a).2.1 ≠ (TX3 b).2.1 := by decide +kernel
theorem tyX3_ok : ∀ k, k < 8 → parseFieldDescriptor (TX3 k).2.2.1 = some (tyX3 k) := by decide +kernel
abbrev cX3_init : ByteArray := prog_5_method_1_code
def yX3_init : MethodName := ⟨RX3, "<init>", "()V"⟩
abbrev cX3_getsNumber : ByteArray := prog_5_method_2_code
def yX3_getsNumber : MethodName := ⟨RX3, "getsNumber", "(I)V"⟩
abbrev cX3_findsFault : ByteArray := prog_5_method_3_code
def yX3_findsFault : MethodName := ⟨RX3, "findsFault", "()I"⟩
abbrev cX3_goesOn : ByteArray := prog_5_method_4_code
def yX3_goesOn : MethodName := ⟨RX3, "goesOn", "()V"⟩
abbrev cX3_isLetter : ByteArray := prog_5_method_5_code
def yX3_isLetter : MethodName := ⟨RX3, "isLetter", "(I)Z"⟩
abbrev cX3_isDigit : ByteArray := prog_5_method_6_code
def yX3_isDigit : MethodName := ⟨RX3, "isDigit", "(I)Z"⟩
abbrev cX3_keyHere : ByteArray := prog_5_method_7_code
def yX3_keyHere : MethodName := ⟨RX3, "keyHere", "()I"⟩
abbrev cX3_isWord : ByteArray := prog_5_method_8_code
def yX3_isWord : MethodName := ⟨RX3, "isWord", "(Ljava/lang/String;)Z"⟩
abbrev cX3_nameHere : ByteArray := prog_5_method_9_code
def yX3_nameHere : MethodName := ⟨RX3, "nameHere", "()I"⟩
abbrev cX3_isSign : ByteArray := prog_5_method_10_code
def yX3_isSign : MethodName := ⟨RX3, "isSign", "(C)Z"⟩
abbrev cX3_readsOr : ByteArray := prog_5_method_11_code
def yX3_readsOr : MethodName := ⟨RX3, "readsOr", "()Z"⟩
abbrev cX3_readsAnd : ByteArray := prog_5_method_12_code
def yX3_readsAnd : MethodName := ⟨RX3, "readsAnd", "()Z"⟩
abbrev cX3_readsTest : ByteArray := prog_5_method_13_code
def yX3_readsTest : MethodName := ⟨RX3, "readsTest", "()Z"⟩
abbrev cX3_readsSum : ByteArray := prog_5_method_14_code
def yX3_readsSum : MethodName := ⟨RX3, "readsSum", "()Z"⟩
abbrev cX3_readsTerm : ByteArray := prog_5_method_15_code
def yX3_readsTerm : MethodName := ⟨RX3, "readsTerm", "()Z"⟩
abbrev cX3_readsPiece : ByteArray := prog_5_method_16_code
def yX3_readsPiece : MethodName := ⟨RX3, "readsPiece", "()Z"⟩
abbrev cX3_readsNot : ByteArray := prog_5_method_17_code
def yX3_readsNot : MethodName := ⟨RX3, "readsNot", "()Z"⟩
abbrev cX3_readsParen : ByteArray := prog_5_method_18_code
def yX3_readsParen : MethodName := ⟨RX3, "readsParen", "()Z"⟩
abbrev cX3_numberHere : ByteArray := prog_5_method_19_code
def yX3_numberHere : MethodName := ⟨RX3, "numberHere", "()I"⟩
def RX4 : String := "LittlePot$Sheet"
def TX4 : u_T := fun k => match k with
  | 0 => ("LittlePot$Sheet", "places", "[I", true)
  | 1 => ("LittlePot$Sheet", "sort", "I", false)
  | _ => ("LittlePot$Sheet", "size", "I", false)
def tyX4 : Nat → FieldType := fun k => match k with
  | 0 => .array .int
  | 1 => .int
  | _ => .int
theorem nmX4 : ∀ a, a < 3 → ∀ b, b < 3 → a ≠ b → (TX4 a).2.1 ≠ (TX4 b).2.1 := by decide +kernel
theorem tyX4_ok : ∀ k, k < 3 → parseFieldDescriptor (TX4 k).2.2.1 = some (tyX4 k) := by decide +kernel
abbrev cX4_init : ByteArray := prog_6_method_1_code
def yX4_init : MethodName := ⟨RX4, "<init>", "()V"⟩
abbrev cX4_becomes : ByteArray := prog_6_method_2_code
def yX4_becomes : MethodName := ⟨RX4, "becomes", "(II)V"⟩
abbrev cX4_becomes_ : ByteArray := prog_6_method_3_code
def yX4_becomes_ : MethodName := ⟨RX4, "becomes", "(LLittlePot$Sheet;)V"⟩
abbrev cX4_isMissing : ByteArray := prog_6_method_4_code
def yX4_isMissing : MethodName := ⟨RX4, "isMissing", "()Z"⟩
abbrev cX4_hasPlace : ByteArray := prog_6_method_5_code
def yX4_hasPlace : MethodName := ⟨RX4, "hasPlace", "(I)Z"⟩
abbrev cX4_hasPlaces : ByteArray := prog_6_method_6_code
def yX4_hasPlaces : MethodName := ⟨RX4, "hasPlaces", "(II)Z"⟩
abbrev cX4_isNumber : ByteArray := prog_6_method_7_code
def yX4_isNumber : MethodName := ⟨RX4, "isNumber", "(I)Z"⟩
abbrev cX4_differsFrom : ByteArray := prog_6_method_8_code
def yX4_differsFrom : MethodName := ⟨RX4, "differsFrom", "([I)I"⟩
abbrev cX4_firstUnlike : ByteArray := prog_6_method_9_code
def yX4_firstUnlike : MethodName := ⟨RX4, "firstUnlike", "([I)I"⟩
abbrev cX4_poursInto : ByteArray := prog_6_method_10_code
def yX4_poursInto : MethodName := ⟨RX4, "poursInto", "([I)I"⟩
def RX5 : String := "LittlePot$Slot"
def TX5 : u_T := fun k => match k with
  | 0 => ("LittlePot$Slot", "thing", "I", false)
  | 1 => ("LittlePot$Slot", "kind", "I", false)
  | 2 => ("LittlePot$Slot", "ate", "I", false)
  | 3 => ("LittlePot$Slot", "number", "I", false)
  | _ => ("LittlePot$Slot", "row", "LLittlePot$Sheet;", true)
def tyX5 : Nat → FieldType := fun k => match k with
  | 0 => .int
  | 1 => .int
  | 2 => .int
  | 3 => .int
  | _ => .object "LittlePot$Sheet"
theorem nmX5 : ∀ a, a < 5 → ∀ b, b < 5 → a ≠ b → (TX5 a).2.1 ≠ (TX5 b).2.1 := by decide +kernel
theorem tyX5_ok : ∀ k, k < 5 → parseFieldDescriptor (TX5 k).2.2.1 = some (tyX5 k) := by decide +kernel
abbrev cX5_init : ByteArray := prog_7_method_1_code
def yX5_init : MethodName := ⟨RX5, "<init>", "()V"⟩
def RX6 : String := "LittlePot$Text"
def TX6 : u_T := fun k => match k with
  | 0 => ("LittlePot$Text", "code", "[I", true)
  | 1 => ("LittlePot$Text", "size", "I", false)
  | 2 => ("LittlePot$Text", "key", "I", false)
  | _ => ("LittlePot$Text", "leaves", "I", false)
def tyX6 : Nat → FieldType := fun k => match k with
  | 0 => .array .int
  | 1 => .int
  | 2 => .int
  | _ => .int
theorem nmX6 : ∀ a, a < 4 → ∀ b, b < 4 → a ≠ b → (TX6 a).2.1 ≠ (TX6 b).2.1 := by decide +kernel
theorem tyX6_ok : ∀ k, k < 4 → parseFieldDescriptor (TX6 k).2.2.1 = some (tyX6 k) := by decide +kernel
abbrev cX6_init : ByteArray := prog_8_method_1_code
def yX6_init : MethodName := ⟨RX6, "<init>", "()V"⟩
abbrev cX6_begins : ByteArray := prog_8_method_2_code
def yX6_begins : MethodName := ⟨RX6, "begins", "(I)V"⟩
abbrev cX6_adds : ByteArray := prog_8_method_3_code
def yX6_adds : MethodName := ⟨RX6, "adds", "(I)V"⟩
def RX7 : String := "LittlePot$Town"
def TX7 : u_T := fun k => match k with
  | 0 => ("LittlePot$Town", "heights", "[I", true)
  | 1 => ("LittlePot$Town", "walls", "[I", true)
  | 2 => ("LittlePot$Town", "parts", "[I", true)
  | 3 => ("LittlePot$Town", "kinds", "[I", true)
  | 4 => ("LittlePot$Town", "places", "[I", true)
  | 5 => ("LittlePot$Town", "ates", "[I", true)
  | 6 => ("LittlePot$Town", "rules", "[I", true)
  | 7 => ("LittlePot$Town", "eaters", "I", false)
  | 8 => ("LittlePot$Town", "pot", "I", false)
  | 9 => ("LittlePot$Town", "cooks", "Z", false)
  | 10 => ("LittlePot$Town", "minute", "I", false)
  | 11 => ("LittlePot$Town", "z", "I", false)
  | 12 => ("LittlePot$Town", "texts", "I", false)
  | _ => ("LittlePot$Town", "laws", "LLittlePot$Laws;", true)
def tyX7 : Nat → FieldType := fun k => match k with
  | 0 => .array .int
  | 1 => .array .int
  | 2 => .array .int
  | 3 => .array .int
  | 4 => .array .int
  | 5 => .array .int
  | 6 => .array .int
  | 7 => .int
  | 8 => .int
  | 9 => .boolean
  | 10 => .int
  | 11 => .int
  | 12 => .int
  | _ => .object "LittlePot$Laws"
theorem nmX7 : ∀ a, a < 14 → ∀ b, b < 14 → a ≠ b → (TX7 a).2.1 ≠ (TX7 b).2.1 := by decide +kernel
theorem tyX7_ok : ∀ k, k < 14 → parseFieldDescriptor (TX7 k).2.2.1 = some (tyX7 k) := by decide +kernel
abbrev cX7_init : ByteArray := prog_9_method_1_code
def yX7_init : MethodName := ⟨RX7, "<init>", "(LLittlePot$Laws;)V"⟩
abbrev cX7_becomes : ByteArray := prog_9_method_2_code
def yX7_becomes : MethodName := ⟨RX7, "becomes", "(LLittlePot$Town;)V"⟩
abbrev cX7_hasEater : ByteArray := prog_9_method_3_code
def yX7_hasEater : MethodName := ⟨RX7, "hasEater", "(I)Z"⟩
abbrev cX7_comes : ByteArray := prog_9_method_4_code
def yX7_comes : MethodName := ⟨RX7, "comes", "(II)I"⟩
abbrev cX7_laid : ByteArray := prog_9_method_5_code
def yX7_laid : MethodName := ⟨RX7, "laid", "(I)[I"⟩
abbrev cX7_level : ByteArray := prog_9_method_6_code
def yX7_level : MethodName := ⟨RX7, "level", "(I)I"⟩
abbrev cX7_allParts : ByteArray := prog_9_method_7_code
def yX7_allParts : MethodName := ⟨RX7, "allParts", "()I"⟩
abbrev cX7_allAte : ByteArray := prog_9_method_8_code
def yX7_allAte : MethodName := ⟨RX7, "allAte", "()I"⟩
abbrev cX7_wetCells : ByteArray := prog_9_method_9_code
def yX7_wetCells : MethodName := ⟨RX7, "wetCells", "()I"⟩
abbrev cX7_pours : ByteArray := prog_9_method_10_code
def yX7_pours : MethodName := ⟨RX7, "pours", "()I"⟩
abbrev cX7_draw : ByteArray := prog_9_method_11_code
def yX7_draw : MethodName := ⟨RX7, "draw", "()I"⟩
abbrev cX7_passes : ByteArray := prog_9_method_12_code
def yX7_passes : MethodName := ⟨RX7, "passes", "(I)V"⟩
abbrev cX7_pass : ByteArray := prog_9_method_13_code
def yX7_pass : MethodName := ⟨RX7, "pass", "()V"⟩
abbrev cX7_flows : ByteArray := prog_9_method_14_code
def yX7_flows : MethodName := ⟨RX7, "flows", "(I)V"⟩
abbrev cX7_feasts : ByteArray := prog_9_method_15_code
def yX7_feasts : MethodName := ⟨RX7, "feasts", "(I)V"⟩
abbrev cX7_fullestBeside : ByteArray := prog_9_method_16_code
def yX7_fullestBeside : MethodName := ⟨RX7, "fullestBeside", "(II)I"⟩
abbrev cX7_miceEat : ByteArray := prog_9_method_17_code
def yX7_miceEat : MethodName := ⟨RX7, "miceEat", "()V"⟩
def RX8 : String := "LittlePot$Ways"
def TX8 : u_T := fun k => match k with
  | 0 => ("LittlePot$Ways", "steps", "[I", true)
  | _ => ("LittlePot$Ways", "reached", "[I", true)
def tyX8 : Nat → FieldType := fun k => match k with
  | 0 => .array .int
  | _ => .array .int
theorem nmX8 : ∀ a, a < 2 → ∀ b, b < 2 → a ≠ b → (TX8 a).2.1 ≠ (TX8 b).2.1 := by decide +kernel
theorem tyX8_ok : ∀ k, k < 2 → parseFieldDescriptor (TX8 k).2.2.1 = some (tyX8 k) := by decide +kernel
abbrev cX8_init : ByteArray := prog_10_method_1_code
def yX8_init : MethodName := ⟨RX8, "<init>", "()V"⟩
abbrev cX8_fewest : ByteArray := prog_10_method_2_code
def yX8_fewest : MethodName := ⟨RX8, "fewest", "([IIII)I"⟩
def RX9 : String := "LittlePot"
def TX9 : u_T := fun k => match k with
  | 0 => ("LittlePot", "laws", "LLittlePot$Laws;", true)
  | 1 => ("LittlePot", "now", "LLittlePot$Town;", true)
  | 2 => ("LittlePot", "image", "LLittlePot$Town;", true)
  | 3 => ("LittlePot", "thought", "LLittlePot$Town;", true)
  | 4 => ("LittlePot", "trunk", "LLittlePot$Town;", true)
  | 5 => ("LittlePot", "reader", "LLittlePot$Reader;", true)
  | 6 => ("LittlePot", "ways", "LLittlePot$Ways;", true)
  | 7 => ("LittlePot", "sheets", "[LLittlePot$Sheet;", true)
  | 8 => ("LittlePot", "slots", "[LLittlePot$Slot;", true)
  | 9 => ("LittlePot", "waiting", "[I", true)
  | 10 => ("LittlePot", "kept", "Z", false)
  | _ => ("LittlePot", "waits", "I", false)
def tyX9 : Nat → FieldType := fun k => match k with
  | 0 => .object "LittlePot$Laws"
  | 1 => .object "LittlePot$Town"
  | 2 => .object "LittlePot$Town"
  | 3 => .object "LittlePot$Town"
  | 4 => .object "LittlePot$Town"
  | 5 => .object "LittlePot$Reader"
  | 6 => .object "LittlePot$Ways"
  | 7 => .array (.object "LittlePot$Sheet")
  | 8 => .array (.object "LittlePot$Slot")
  | 9 => .array .int
  | 10 => .boolean
  | _ => .int
theorem nmX9 : ∀ a, a < 12 → ∀ b, b < 12 → a ≠ b → (TX9 a).2.1 ≠ (TX9 b).2.1 := by decide +kernel
theorem tyX9_ok : ∀ k, k < 12 → parseFieldDescriptor (TX9 k).2.2.1 = some (tyX9 k) := by decide +kernel
abbrev cX9_init : ByteArray := prog_1_method_1_code
def yX9_init : MethodName := ⟨RX9, "<init>", "()V"⟩
abbrev cX9_eater : ByteArray := prog_1_method_2_code
def yX9_eater : MethodName := ⟨RX9, "eater", "(II)I"⟩
abbrev cX9_told : ByteArray := prog_1_method_3_code
def yX9_told : MethodName := ⟨RX9, "told", "(II)I"⟩
abbrev cX9_cell : ByteArray := prog_1_method_4_code
def yX9_cell : MethodName := ⟨RX9, "cell", "(II)I"⟩
abbrev cX9_lays : ByteArray := prog_1_method_5_code
def yX9_lays : MethodName := ⟨RX9, "lays", "(III)I"⟩
abbrev cX9_as : ByteArray := prog_1_method_6_code
def yX9_as : MethodName := ⟨RX9, "as", "(II)I"⟩
abbrev cX9_turns : ByteArray := prog_1_method_7_code
def yX9_turns : MethodName := ⟨RX9, "turns", "(II)I"⟩
abbrev cX9_sends : ByteArray := prog_1_method_8_code
def yX9_sends : MethodName := ⟨RX9, "sends", "(II)I"⟩
abbrev cX9_cook : ByteArray := prog_1_method_9_code
def yX9_cook : MethodName := ⟨RX9, "cook", "(I)I"⟩
abbrev cX9_say : ByteArray := prog_1_method_10_code
def yX9_say : MethodName := ⟨RX9, "say", "(I)I"⟩
abbrev cX9_rule : ByteArray := prog_1_method_11_code
def yX9_rule : MethodName := ⟨RX9, "rule", "(II)I"⟩
abbrev cX9_deal : ByteArray := prog_1_method_12_code
def yX9_deal : MethodName := ⟨RX9, "deal", "(I)I"⟩
abbrev cX9_seed : ByteArray := prog_1_method_13_code
def yX9_seed : MethodName := ⟨RX9, "seed", "(I)I"⟩
abbrev cX9_minutes : ByteArray := prog_1_method_14_code
def yX9_minutes : MethodName := ⟨RX9, "minutes", "(I)I"⟩
abbrev cX9_town : ByteArray := prog_1_method_15_code
def yX9_town : MethodName := ⟨RX9, "town", "(I)I"⟩
abbrev cX9_path : ByteArray := prog_1_method_16_code
def yX9_path : MethodName := ⟨RX9, "path", "(III)I"⟩
abbrev cX9_behind : ByteArray := prog_1_method_17_code
def yX9_behind : MethodName := ⟨RX9, "behind", "(II)I"⟩
abbrev cX9_wets : ByteArray := prog_1_method_18_code
def yX9_wets : MethodName := ⟨RX9, "wets", "(I)I"⟩
abbrev cX9_deepest : ByteArray := prog_1_method_19_code
def yX9_deepest : MethodName := ⟨RX9, "deepest", "(II)I"⟩
abbrev cX9_walled : ByteArray := prog_1_method_20_code
def yX9_walled : MethodName := ⟨RX9, "walled", "(III)I"⟩
abbrev cX9_enough : ByteArray := prog_1_method_21_code
def yX9_enough : MethodName := ⟨RX9, "enough", "(II)I"⟩
abbrev cX9_stood : ByteArray := prog_1_method_22_code
def yX9_stood : MethodName := ⟨RX9, "stood", "(III)I"⟩
abbrev cX9_fee : ByteArray := prog_1_method_23_code
def yX9_fee : MethodName := ⟨RX9, "fee", "()I"⟩
abbrev cX9_fine : ByteArray := prog_1_method_24_code
def yX9_fine : MethodName := ⟨RX9, "fine", "(I)I"⟩
abbrev cX9_feed : ByteArray := prog_1_method_25_code
def yX9_feed : MethodName := ⟨RX9, "feed", "(III)I"⟩
abbrev cX9_trim : ByteArray := prog_1_method_26_code
def yX9_trim : MethodName := ⟨RX9, "trim", "(I)I"⟩
abbrev cX9_text : ByteArray := prog_1_method_27_code
def yX9_text : MethodName := ⟨RX9, "text", "()I"⟩
abbrev cX9_textTold : ByteArray := prog_1_method_28_code
def yX9_textTold : MethodName := ⟨RX9, "textTold", "(II)I"⟩
abbrev cX9_why : ByteArray := prog_1_method_29_code
def yX9_why : MethodName := ⟨RX9, "why", "(I)I"⟩
abbrev cX9_sheet : ByteArray := prog_1_method_30_code
def yX9_sheet : MethodName := ⟨RX9, "sheet", "(III)I"⟩
abbrev cX9_mark : ByteArray := prog_1_method_31_code
def yX9_mark : MethodName := ⟨RX9, "mark", "(III)I"⟩
abbrev cX9_pour : ByteArray := prog_1_method_32_code
def yX9_pour : MethodName := ⟨RX9, "pour", "(I)I"⟩
abbrev cX9_reads : ByteArray := prog_1_method_33_code
def yX9_reads : MethodName := ⟨RX9, "reads", "(I)I"⟩
abbrev cX9_copy : ByteArray := prog_1_method_34_code
def yX9_copy : MethodName := ⟨RX9, "copy", "(IIIII)I"⟩
abbrev cX9_lay : ByteArray := prog_1_method_35_code
def yX9_lay : MethodName := ⟨RX9, "lay", "(III)I"⟩
abbrev cX9_ask : ByteArray := prog_1_method_36_code
def yX9_ask : MethodName := ⟨RX9, "ask", "(II)I"⟩
abbrev cX9_item : ByteArray := prog_1_method_37_code
def yX9_item : MethodName := ⟨RX9, "item", "(II)I"⟩
abbrev cX9_rest : ByteArray := prog_1_method_38_code
def yX9_rest : MethodName := ⟨RX9, "rest", "(II)I"⟩
abbrev cX9_tell : ByteArray := prog_1_method_39_code
def yX9_tell : MethodName := ⟨RX9, "tell", "(I)I"⟩
abbrev cX9_check : ByteArray := prog_1_method_40_code
def yX9_check : MethodName := ⟨RX9, "check", "(I)I"⟩
abbrev cX9_keep : ByteArray := prog_1_method_41_code
def yX9_keep : MethodName := ⟨RX9, "keep", "()I"⟩
abbrev cX9_back : ByteArray := prog_1_method_42_code
def yX9_back : MethodName := ⟨RX9, "back", "()I"⟩
abbrev cX9_count : ByteArray := prog_1_method_43_code
def yX9_count : MethodName := ⟨RX9, "count", "(I)I"⟩
abbrev cX9_within : ByteArray := prog_1_method_44_code
def yX9_within : MethodName := ⟨RX9, "within", "(III)Z"⟩
abbrev cX9_isCell : ByteArray := prog_1_method_45_code
def yX9_isCell : MethodName := ⟨RX9, "isCell", "(I)Z"⟩
abbrev cX9_isSheet : ByteArray := prog_1_method_46_code
def yX9_isSheet : MethodName := ⟨RX9, "isSheet", "(I)Z"⟩
abbrev cX9_isSlot : ByteArray := prog_1_method_47_code
def yX9_isSlot : MethodName := ⟨RX9, "isSlot", "(I)Z"⟩
abbrev cX9_unlessHeld : ByteArray := prog_1_method_48_code
def yX9_unlessHeld : MethodName := ⟨RX9, "unlessHeld", "(II)I"⟩
abbrev cX9_waited : ByteArray := prog_1_method_49_code
def yX9_waited : MethodName := ⟨RX9, "waited", "(III)Z"⟩
def RX10 : String := "LittlePotModel"
def TX10 : u_T := fun k => match k with
  | 0 => ("LittlePotModel", "s", "[I", true)
  | 1 => ("LittlePotModel", "image", "[I", true)
  | 2 => ("LittlePotModel", "aside", "[I", true)
  | 3 => ("LittlePotModel", "hasImage", "Z", false)
  | 4 => ("LittlePotModel", "tSort", "[I", true)
  | 5 => ("LittlePotModel", "tSize", "[I", true)
  | 6 => ("LittlePotModel", "tNumber", "[I", true)
  | 7 => ("LittlePotModel", "held", "[I", true)
  | 8 => ("LittlePotModel", "heldNumber", "[I", true)
  | 9 => ("LittlePotModel", "heldWorth", "[I", true)
  | 10 => ("LittlePotModel", "heldSize", "[I", true)
  | 11 => ("LittlePotModel", "heldRow", "[I", true)
  | 12 => ("LittlePotModel", "met", "[I", true)
  | 13 => ("LittlePotModel", "steps0", "[I", true)
  | 14 => ("LittlePotModel", "close", "[I", true)
  | 15 => ("LittlePotModel", "tape", "[I", true)
  | 16 => ("LittlePotModel", "taped", "I", false)
  | 17 => ("LittlePotModel", "begin", "I", false)
  | 18 => ("LittlePotModel", "behind", "I", false)
  | 19 => ("LittlePotModel", "token", "I", false)
  | 20 => ("LittlePotModel", "number", "I", false)
  | 21 => ("LittlePotModel", "letter", "I", false)
  | 22 => ("LittlePotModel", "deep", "I", false)
  | 23 => ("LittlePotModel", "turned", "I", false)
  | 24 => ("LittlePotModel", "laid", "I", false)
  | 25 => ("LittlePotModel", "laidAt", "I", false)
  | 26 => ("LittlePotModel", "said", "I", false)
  | 27 => ("LittlePotModel", "named", "[I", true)
  | 28 => ("LittlePotModel", "pile", "[I", true)
  | 29 => ("LittlePotModel", "carried", "[I", true)
  | 30 => ("LittlePotModel", "waits", "[I", true)
  | 31 => ("LittlePotModel", "waiting", "I", false)
  | _ => ("LittlePotModel", "rowDue", "[I", true)
def tyX10 : Nat → FieldType := fun k => match k with
  | 0 => .array .int
  | 1 => .array .int
  | 2 => .array .int
  | 3 => .boolean
  | 4 => .array .int
  | 5 => .array .int
  | 6 => .array .int
  | 7 => .array .int
  | 8 => .array .int
  | 9 => .array .int
  | 10 => .array .int
  | 11 => .array .int
  | 12 => .array .int
  | 13 => .array .int
  | 14 => .array .int
  | 15 => .array .int
  | 16 => .int
  | 17 => .int
  | 18 => .int
  | 19 => .int
  | 20 => .int
  | 21 => .int
  | 22 => .int
  | 23 => .int
  | 24 => .int
  | 25 => .int
  | 26 => .int
  | 27 => .array .int
  | 28 => .array .int
  | 29 => .array .int
  | 30 => .array .int
  | 31 => .int
  | _ => .array .int
theorem nmX10 : ∀ a, a < 33 → ∀ b, b < 33 → a ≠ b → (TX10 a).2.1 ≠ (TX10 b).2.1 := by decide +kernel
theorem tyX10_ok : ∀ k, k < 33 → parseFieldDescriptor (TX10 k).2.2.1 = some (tyX10 k) := by decide +kernel
abbrev cX10_init : ByteArray := prog_12_method_1_code
def yX10_init : MethodName := ⟨RX10, "<init>", "()V"⟩
abbrev cX10_isIn : ByteArray := prog_12_method_2_code
def yX10_isIn : MethodName := ⟨RX10, "isIn", "(JJJ)Z"⟩
abbrev cX10_orNone : ByteArray := prog_12_method_3_code
def yX10_orNone : MethodName := ⟨RX10, "orNone", "(I)I"⟩
abbrev cX10_within : ByteArray := prog_12_method_4_code
def yX10_within : MethodName := ⟨RX10, "within", "(II)I"⟩
abbrev cX10_off : ByteArray := prog_12_method_5_code
def yX10_off : MethodName := ⟨RX10, "off", "(II)I"⟩
abbrev cX10_becomes : ByteArray := prog_12_method_6_code
def yX10_becomes : MethodName := ⟨RX10, "becomes", "(II)I"⟩
abbrev cX10_textAt : ByteArray := prog_12_method_7_code
def yX10_textAt : MethodName := ⟨RX10, "textAt", "(I)I"⟩
abbrev cX10_of : ByteArray := prog_12_method_8_code
def yX10_of : MethodName := ⟨RX10, "of", "(II)I"⟩
abbrev cX10_sets : ByteArray := prog_12_method_9_code
def yX10_sets : MethodName := ⟨RX10, "sets", "(III)V"⟩
abbrev cX10_isEater : ByteArray := prog_12_method_10_code
def yX10_isEater : MethodName := ⟨RX10, "isEater", "(I)Z"⟩
abbrev cX10_isCell : ByteArray := prog_12_method_11_code
def yX10_isCell : MethodName := ⟨RX10, "isCell", "(I)Z"⟩
abbrev cX10_isText : ByteArray := prog_12_method_12_code
def yX10_isText : MethodName := ⟨RX10, "isText", "(I)Z"⟩
abbrev cX10_drawn : ByteArray := prog_12_method_13_code
def yX10_drawn : MethodName := ⟨RX10, "drawn", "()I"⟩
abbrev cX10_beside : ByteArray := prog_12_method_14_code
def yX10_beside : MethodName := ⟨RX10, "beside", "(II)I"⟩
abbrev cX10_parts : ByteArray := prog_12_method_15_code
def yX10_parts : MethodName := ⟨RX10, "parts", "(I)I"⟩
abbrev cX10_level : ByteArray := prog_12_method_16_code
def yX10_level : MethodName := ⟨RX10, "level", "(I)I"⟩
abbrev cX10_comes : ByteArray := prog_12_method_17_code
def yX10_comes : MethodName := ⟨RX10, "comes", "(II)V"⟩
abbrev cX10_eater : ByteArray := prog_12_method_18_code
def yX10_eater : MethodName := ⟨RX10, "eater", "(II)I"⟩
abbrev cX10_eats : ByteArray := prog_12_method_19_code
def yX10_eats : MethodName := ⟨RX10, "eats", "(I)I"⟩
abbrev cX10_wades : ByteArray := prog_12_method_20_code
def yX10_wades : MethodName := ⟨RX10, "wades", "(I)I"⟩
abbrev cX10_worth : ByteArray := prog_12_method_21_code
def yX10_worth : MethodName := ⟨RX10, "worth", "(I)I"⟩
abbrev cX10_told : ByteArray := prog_12_method_22_code
def yX10_told : MethodName := ⟨RX10, "told", "(II)I"⟩
abbrev cX10_cell : ByteArray := prog_12_method_23_code
def yX10_cell : MethodName := ⟨RX10, "cell", "(II)I"⟩
abbrev cX10_lays : ByteArray := prog_12_method_24_code
def yX10_lays : MethodName := ⟨RX10, "lays", "(III)I"⟩
abbrev cX10_isOf : ByteArray := prog_12_method_25_code
def yX10_isOf : MethodName := ⟨RX10, "isOf", "(II)Z"⟩
abbrev cX10_as : ByteArray := prog_12_method_26_code
def yX10_as : MethodName := ⟨RX10, "as", "(II)I"⟩
abbrev cX10_turns : ByteArray := prog_12_method_27_code
def yX10_turns : MethodName := ⟨RX10, "turns", "(II)I"⟩
abbrev cX10_sends : ByteArray := prog_12_method_28_code
def yX10_sends : MethodName := ⟨RX10, "sends", "(II)I"⟩
abbrev cX10_cook : ByteArray := prog_12_method_29_code
def yX10_cook : MethodName := ⟨RX10, "cook", "(I)I"⟩
abbrev cX10_say : ByteArray := prog_12_method_30_code
def yX10_say : MethodName := ⟨RX10, "say", "(I)I"⟩
abbrev cX10_mostRule : ByteArray := prog_12_method_31_code
def yX10_mostRule : MethodName := ⟨RX10, "mostRule", "(I)I"⟩
abbrev cX10_rule : ByteArray := prog_12_method_32_code
def yX10_rule : MethodName := ⟨RX10, "rule", "(II)I"⟩
abbrev cX10_deal : ByteArray := prog_12_method_33_code
def yX10_deal : MethodName := ⟨RX10, "deal", "(I)I"⟩
abbrev cX10_seed : ByteArray := prog_12_method_34_code
def yX10_seed : MethodName := ⟨RX10, "seed", "(I)I"⟩
abbrev cX10_pours : ByteArray := prog_12_method_35_code
def yX10_pours : MethodName := ⟨RX10, "pours", "()I"⟩
abbrev cX10_flows : ByteArray := prog_12_method_36_code
def yX10_flows : MethodName := ⟨RX10, "flows", "(I)V"⟩
abbrev cX10_dines : ByteArray := prog_12_method_37_code
def yX10_dines : MethodName := ⟨RX10, "dines", "(I)I"⟩
abbrev cX10_goesOn : ByteArray := prog_12_method_38_code
def yX10_goesOn : MethodName := ⟨RX10, "goesOn", "()I"⟩
abbrev cX10_goesOnMany : ByteArray := prog_12_method_39_code
def yX10_goesOnMany : MethodName := ⟨RX10, "goesOnMany", "(I)V"⟩
abbrev cX10_minutes : ByteArray := prog_12_method_40_code
def yX10_minutes : MethodName := ⟨RX10, "minutes", "(I)I"⟩
abbrev cX10_allParts : ByteArray := prog_12_method_41_code
def yX10_allParts : MethodName := ⟨RX10, "allParts", "()I"⟩
abbrev cX10_allAte : ByteArray := prog_12_method_42_code
def yX10_allAte : MethodName := ⟨RX10, "allAte", "()I"⟩
abbrev cX10_manyWet : ByteArray := prog_12_method_43_code
def yX10_manyWet : MethodName := ⟨RX10, "manyWet", "()I"⟩
abbrev cX10_town : ByteArray := prog_12_method_44_code
def yX10_town : MethodName := ⟨RX10, "town", "(I)I"⟩
abbrev cX10_path : ByteArray := prog_12_method_45_code
def yX10_path : MethodName := ⟨RX10, "path", "(III)I"⟩
abbrev cX10_laysBy : ByteArray := prog_12_method_46_code
def yX10_laysBy : MethodName := ⟨RX10, "laysBy", "()V"⟩
abbrev cX10_laysBack : ByteArray := prog_12_method_47_code
def yX10_laysBack : MethodName := ⟨RX10, "laysBack", "()V"⟩
abbrev cX10_behind : ByteArray := prog_12_method_48_code
def yX10_behind : MethodName := ⟨RX10, "behind", "(II)I"⟩
abbrev cX10_wets : ByteArray := prog_12_method_49_code
def yX10_wets : MethodName := ⟨RX10, "wets", "(I)I"⟩
abbrev cX10_deepest : ByteArray := prog_12_method_50_code
def yX10_deepest : MethodName := ⟨RX10, "deepest", "(II)I"⟩
abbrev cX10_walled : ByteArray := prog_12_method_51_code
def yX10_walled : MethodName := ⟨RX10, "walled", "(III)I"⟩
abbrev cX10_enough : ByteArray := prog_12_method_52_code
def yX10_enough : MethodName := ⟨RX10, "enough", "(II)I"⟩
abbrev cX10_fee : ByteArray := prog_12_method_53_code
def yX10_fee : MethodName := ⟨RX10, "fee", "()I"⟩
abbrev cX10_fine : ByteArray := prog_12_method_54_code
def yX10_fine : MethodName := ⟨RX10, "fine", "(I)I"⟩
abbrev cX10_feed : ByteArray := prog_12_method_55_code
def yX10_feed : MethodName := ⟨RX10, "feed", "(III)I"⟩
abbrev cX10_trim : ByteArray := prog_12_method_56_code
def yX10_trim : MethodName := ⟨RX10, "trim", "(I)I"⟩
abbrev cX10_isLetter : ByteArray := prog_12_method_57_code
def yX10_isLetter : MethodName := ⟨RX10, "isLetter", "(I)Z"⟩
abbrev cX10_isDigit : ByteArray := prog_12_method_58_code
def yX10_isDigit : MethodName := ⟨RX10, "isDigit", "(I)Z"⟩
abbrev cX10_nextToken : ByteArray := prog_12_method_59_code
def yX10_nextToken : MethodName := ⟨RX10, "nextToken", "()V"⟩
abbrev cX10_isSign : ByteArray := prog_12_method_60_code
def yX10_isSign : MethodName := ⟨RX10, "isSign", "(I)Z"⟩
abbrev cX10_isWordAt : ByteArray := prog_12_method_61_code
def yX10_isWordAt : MethodName := ⟨RX10, "isWordAt", "(IIII)Z"⟩
abbrev cX10_key : ByteArray := prog_12_method_62_code
def yX10_key : MethodName := ⟨RX10, "key", "()I"⟩
abbrev cX10_isName : ByteArray := prog_12_method_63_code
def yX10_isName : MethodName := ⟨RX10, "isName", "(II)Z"⟩
abbrev cX10_step : ByteArray := prog_12_method_64_code
def yX10_step : MethodName := ⟨RX10, "step", "(II)V"⟩
abbrev cX10_either : ByteArray := prog_12_method_65_code
def yX10_either : MethodName := ⟨RX10, "either", "(I)Z"⟩
abbrev cX10_both : ByteArray := prog_12_method_66_code
def yX10_both : MethodName := ⟨RX10, "both", "(I)Z"⟩
abbrev cX10_test : ByteArray := prog_12_method_67_code
def yX10_test : MethodName := ⟨RX10, "test", "(I)Z"⟩
abbrev cX10_sum : ByteArray := prog_12_method_68_code
def yX10_sum : MethodName := ⟨RX10, "sum", "(I)Z"⟩
abbrev cX10_term : ByteArray := prog_12_method_69_code
def yX10_term : MethodName := ⟨RX10, "term", "(I)Z"⟩
abbrev cX10_part0 : ByteArray := prog_12_method_70_code
def yX10_part0 : MethodName := ⟨RX10, "part0", "(I)Z"⟩
abbrev cX10_parse : ByteArray := prog_12_method_71_code
def yX10_parse : MethodName := ⟨RX10, "parse", "()I"⟩
abbrev cX10_text : ByteArray := prog_12_method_72_code
def yX10_text : MethodName := ⟨RX10, "text", "()I"⟩
abbrev cX10_textTold : ByteArray := prog_12_method_73_code
def yX10_textTold : MethodName := ⟨RX10, "textTold", "(II)I"⟩
abbrev cX10_counts : ByteArray := prog_12_method_74_code
def yX10_counts : MethodName := ⟨RX10, "counts", "(I)I"⟩
abbrev cX10_why : ByteArray := prog_12_method_75_code
def yX10_why : MethodName := ⟨RX10, "why", "(I)I"⟩
abbrev cX10_joined : ByteArray := prog_12_method_76_code
def yX10_joined : MethodName := ⟨RX10, "joined", "(III)I"⟩
abbrev cX10_worked : ByteArray := prog_12_method_77_code
def yX10_worked : MethodName := ⟨RX10, "worked", "(I)I"⟩
abbrev cX10_isSheet : ByteArray := prog_12_method_78_code
def yX10_isSheet : MethodName := ⟨RX10, "isSheet", "(I)Z"⟩
abbrev cX10_sheet : ByteArray := prog_12_method_79_code
def yX10_sheet : MethodName := ⟨RX10, "sheet", "(III)I"⟩
abbrev cX10_mark : ByteArray := prog_12_method_80_code
def yX10_mark : MethodName := ⟨RX10, "mark", "(III)I"⟩
abbrev cX10_pour : ByteArray := prog_12_method_81_code
def yX10_pour : MethodName := ⟨RX10, "pour", "(I)I"⟩
abbrev cX10_reads : ByteArray := prog_12_method_82_code
def yX10_reads : MethodName := ⟨RX10, "reads", "(I)I"⟩
abbrev cX10_stood : ByteArray := prog_12_method_83_code
def yX10_stood : MethodName := ⟨RX10, "stood", "(III)I"⟩
abbrev cX10_copy : ByteArray := prog_12_method_84_code
def yX10_copy : MethodName := ⟨RX10, "copy", "(IIIII)I"⟩
abbrev cX10_isSlot : ByteArray := prog_12_method_85_code
def yX10_isSlot : MethodName := ⟨RX10, "isSlot", "(I)Z"⟩
abbrev cX10_lay : ByteArray := prog_12_method_86_code
def yX10_lay : MethodName := ⟨RX10, "lay", "(III)I"⟩
abbrev cX10_ask : ByteArray := prog_12_method_87_code
def yX10_ask : MethodName := ⟨RX10, "ask", "(II)I"⟩
abbrev cX10_item : ByteArray := prog_12_method_88_code
def yX10_item : MethodName := ⟨RX10, "item", "(II)I"⟩
abbrev cX10_rest : ByteArray := prog_12_method_89_code
def yX10_rest : MethodName := ⟨RX10, "rest", "(II)I"⟩
abbrev cX10_tell : ByteArray := prog_12_method_90_code
def yX10_tell : MethodName := ⟨RX10, "tell", "(I)I"⟩
abbrev cX10_setAside : ByteArray := prog_12_method_91_code
def yX10_setAside : MethodName := ⟨RX10, "setAside", "([I[I)V"⟩
abbrev cX10_check : ByteArray := prog_12_method_92_code
def yX10_check : MethodName := ⟨RX10, "check", "(I)I"⟩
abbrev cX10_keep : ByteArray := prog_12_method_93_code
def yX10_keep : MethodName := ⟨RX10, "keep", "()I"⟩
abbrev cX10_back : ByteArray := prog_12_method_94_code
def yX10_back : MethodName := ⟨RX10, "back", "()I"⟩
abbrev cX10_count : ByteArray := prog_12_method_95_code
def yX10_count : MethodName := ⟨RX10, "count", "(I)I"⟩
def RJ11 : String := "java/lang/Character"
def TJ11 : u_T := fun k => match k with
  | _ => ("", "", "", false)
def tyJ11 : Nat → FieldType := fun k => match k with
  | _ => .int
abbrev cJ11_isValidCodePoint_9a6ad : ByteArray := prog_13_method_11_code
def yJ11_isValidCodePoint_9a6ad : MethodName := ⟨RJ11, "isValidCodePoint", "(I)Z"⟩
abbrev cJ11_highSurrogate_5068e : ByteArray := prog_13_method_28_code
def yJ11_highSurrogate_5068e : MethodName := ⟨RJ11, "highSurrogate", "(I)C"⟩
abbrev cJ11_lowSurrogate_5068e : ByteArray := prog_13_method_29_code
def yJ11_lowSurrogate_5068e : MethodName := ⟨RJ11, "lowSurrogate", "(I)C"⟩
def RJ9 : String := "java/lang/Math"
def TJ9 : u_T := fun k => match k with
  | _ => ("", "", "", false)
def tyJ9 : Nat → FieldType := fun k => match k with
  | _ => .int
abbrev cJ9_abs_0f7a4 : ByteArray := prog_14_method_59_code
def yJ9_abs_0f7a4 : MethodName := ⟨RJ9, "abs", "(I)I"⟩
abbrev cJ9_max_7cf53 : ByteArray := prog_14_method_65_code
def yJ9_max_7cf53 : MethodName := ⟨RJ9, "max", "(II)I"⟩
abbrev cJ9_min_7cf53 : ByteArray := prog_14_method_69_code
def yJ9_min_7cf53 : MethodName := ⟨RJ9, "min", "(II)I"⟩
def RJ0 : String := "java/lang/String"
def TJ0 : u_T := fun k => match k with
  | _ => ("", "", "", false)
def tyJ0 : Nat → FieldType := fun k => match k with
  | _ => .int
abbrev cJ0_length_8abf5 : ByteArray := prog_15_method_54_code
def yJ0_length_8abf5 : MethodName := ⟨RJ0, "length", "()I"⟩
abbrev cJ0_charAt_5068e : ByteArray := prog_15_method_56_code
def yJ0_charAt_5068e : MethodName := ⟨RJ0, "charAt", "(I)C"⟩
abbrev cJ0_indexOf_0f7a4 : ByteArray := prog_15_method_79_code
def yJ0_indexOf_0f7a4 : MethodName := ⟨RJ0, "indexOf", "(I)I"⟩
abbrev cJ0_indexOf_7cf53 : ByteArray := prog_15_method_80_code
def yJ0_indexOf_7cf53 : MethodName := ⟨RJ0, "indexOf", "(II)I"⟩
abbrev cJ0_coder_7d493 : ByteArray := prog_15_method_152_code
def yJ0_coder_7d493 : MethodName := ⟨RJ0, "coder", "()B"⟩
abbrev cJ0_isLatin1_aae02 : ByteArray := prog_15_method_154_code
def yJ0_isLatin1_aae02 : MethodName := ⟨RJ0, "isLatin1", "()Z"⟩
abbrev cJ0_checkIndex_df160 : ByteArray := prog_15_method_155_code
def yJ0_checkIndex_df160 : MethodName := ⟨RJ0, "checkIndex", "(II)V"⟩
abbrev cJ0_checkBoundsBeginEnd_23922 : ByteArray := prog_15_method_158_code
def yJ0_checkBoundsBeginEnd_23922 : MethodName := ⟨RJ0, "checkBoundsBeginEnd", "(III)V"⟩
def RJ1 : String := "java/lang/StringLatin1"
def TJ1 : u_T := fun k => match k with
  | _ => ("", "", "", false)
def tyJ1 : Nat → FieldType := fun k => match k with
  | _ => .int
abbrev cJ1_charAt_3b067 : ByteArray := prog_16_method_2_code
def yJ1_charAt_3b067 : MethodName := ⟨RJ1, "charAt", "([BI)C"⟩
abbrev cJ1_canEncode_9a6ad : ByteArray := prog_16_method_4_code
def yJ1_canEncode_9a6ad : MethodName := ⟨RJ1, "canEncode", "(I)Z"⟩
abbrev cJ1_indexOf_4cfef : ByteArray := prog_16_method_22_code
def yJ1_indexOf_4cfef : MethodName := ⟨RJ1, "indexOf", "([BIII)I"⟩
abbrev cJ1_indexOfChar_4cfef : ByteArray := prog_16_method_23_code
def yJ1_indexOfChar_4cfef : MethodName := ⟨RJ1, "indexOfChar", "([BIII)I"⟩
def RJ2 : String := "java/lang/StringUTF16"
def TJ2 : u_T := fun k => match k with
  | _ => ("", "", "", false)
def tyJ2 : Nat → FieldType := fun k => match k with
  | _ => .int
abbrev cJ2_getChar_3b067 : ByteArray := prog_17_method_5_code
def yJ2_getChar_3b067 : MethodName := ⟨RJ2, "getChar", "([BI)C"⟩
abbrev cJ2_length_9d52b : ByteArray := prog_17_method_6_code
def yJ2_length_9d52b : MethodName := ⟨RJ2, "length", "([B)I"⟩
abbrev cJ2_indexOf_4cfef : ByteArray := prog_17_method_40_code
def yJ2_indexOf_4cfef : MethodName := ⟨RJ2, "indexOf", "([BIII)I"⟩
abbrev cJ2_indexOfChar_4cfef : ByteArray := prog_17_method_47_code
def yJ2_indexOfChar_4cfef : MethodName := ⟨RJ2, "indexOfChar", "([BIII)I"⟩
abbrev cJ2_indexOfCharUnsafe_4cfef : ByteArray := prog_17_method_48_code
def yJ2_indexOfCharUnsafe_4cfef : MethodName := ⟨RJ2, "indexOfCharUnsafe", "([BIII)I"⟩
abbrev cJ2_indexOfSupplementary_4cfef : ByteArray := prog_17_method_49_code
def yJ2_indexOfSupplementary_4cfef : MethodName := ⟨RJ2, "indexOfSupplementary", "([BIII)I"⟩
abbrev cJ2_charAt_3b067 : ByteArray := prog_17_method_83_code
def yJ2_charAt_3b067 : MethodName := ⟨RJ2, "charAt", "([BI)C"⟩
abbrev cJ2_checkIndex_2214a : ByteArray := prog_17_method_91_code
def yJ2_checkIndex_2214a : MethodName := ⟨RJ2, "checkIndex", "(I[B)V"⟩
abbrev cJ2_checkBoundsBeginEnd_d044e : ByteArray := prog_17_method_93_code
def yJ2_checkBoundsBeginEnd_d044e : MethodName := ⟨RJ2, "checkBoundsBeginEnd", "(II[B)V"⟩
def RJ10 : String := "java/lang/System"
def TJ10 : u_T := fun k => match k with
  | _ => ("", "", "", false)
def tyJ10 : Nat → FieldType := fun k => match k with
  | _ => .int
def RJ3 : String := "jdk/internal/util/Preconditions"
def TJ3 : u_T := fun k => match k with
  | _ => ("", "", "", false)
def tyJ3 : Nat → FieldType := fun k => match k with
  | _ => .int
abbrev cJ3_checkIndex_8e157 : ByteArray := prog_19_method_11_code
def yJ3_checkIndex_8e157 : MethodName := ⟨RJ3, "checkIndex", "(IILjava/util/function/BiFunction;)I"⟩
abbrev cJ3_checkFromToIndex_8c36e : ByteArray := prog_19_method_12_code
def yJ3_checkFromToIndex_8c36e : MethodName := ⟨RJ3, "checkFromToIndex", "(IIILjava/util/function/BiFunction;)I"⟩
def RL : String := "LittlePotLaw"
abbrev cL_law : ByteArray := code
def yL_law : MethodName := ⟨RL, "law", "([I)Z"⟩
end
section
/-! The pure machine: memory is a list of cells; a reference is a cell's place in it (from 1000000 on: what lies outside: static rows, texts). Cell number i lies at the address B + i. -/
def pz_TB : List Cond := lw_tbl.filter goodWord
theorem pz_good : GoodIn pz_TB pz_TB := fun w h => ⟨h, good_of_word (List.mem_filter.mp h).2⟩
theorem pz_in {w : Cond} (h : (decide (w ∈ lw_tbl) && goodWord w) = true) : w ∈ pz_TB := by
  simp only [Bool.and_eq_true, decide_eq_true_eq] at h
  exact List.mem_filter.mpr h
theorem pz_goodC {w : Cond} (h : w ∈ pz_TB) : GoodIn pz_TB (w :: pz_TB) := fun z hz => by
  rcases List.mem_cons.mp hz with rfl | hz
  · exact pz_good _ h
  · exact pz_good _ hz
abbrev pz_E : Type := (Nat × Nat × (Nat → Int32)) ⊕ (Nat × Nat × (Nat → Option Nat)) ⊕ (Nat × List Value)
abbrev pz_M : Type := List pz_E
abbrev pz_V : Type := va_G × (Nat → ClassId) × Nat × (Nat → Nat)
def pz_x (E : pz_V) (i : Nat) : Nat := if i < 1000000 then E.2.2.1 + i else E.2.2.2 i
def pz_v (E : pz_V) (v : Value) : Value := match v with
  | .ref i => .ref (pz_x E i)
  | v => v
def pz_e (E : pz_V) (c : pz_E) : va_E := match c with
  | .inl a => .inl (E.2.1 a.1, a.2.1, .inl a.2.2)
  | .inr (.inl a) => .inl (E.2.1 a.1, a.2.1, .inr (.inr (.inr (.inr (fun j => (a.2.2 j).map (pz_x E))))))
  | .inr (.inr o) => .inr (o.1, o.2.map (pz_v E))
def pz_cls : List vw_C := [(RX1, TX1, 2), (RX3, TX3, 8), (RX4, TX4, 3), (RX5, TX5, 5), (RX6, TX6, 4), (RX7, TX7, 14), (RX8, TX8, 2), (RX9, TX9, 12), (RX10, TX10, 33)]
def pz_tys (E : pz_V) : List (ClassId × FieldType) := [(E.2.1 0, .int), (E.2.1 1, .byte), (E.2.1 2, .object RX6), (E.2.1 3, .object RX4), (E.2.1 4, .object RX5)]
def pz_A (E : pz_V) : Nat → Prop := fun q => E.2.2.1 ≤ q
/-- the heap holds the memory -/
def pz_W (E : pz_V) (M : pz_M) (H : Heap) : Prop := H.size = E.2.2.1 + M.length ∧ M.length ≤ 1000000 ∧ ∀ (i : Nat) (c : pz_E), M[i]? = some c → va_at E.1 pz_cls (E.2.2.1 + i, pz_e E c) H
/-! what lies outside -/
def pz_stn (t : Nat) : String × String × Nat × List Int32 := match t with
  | 0 => ("LittlePot", "RULE_MOST", 4, [9, 99, 9, 100])
  | 1 => ("LittlePot", "LAID_MOST", 3, [20, 20, 999])
  | 2 => ("LittlePot$Kinds", "ABOVE", 6, [-1, 0, 0, 1, 2, 0])
  | _ => ("LittlePot$Near", "CELL", 144, [1, -1, 6, -1, 2, 0, 7, -1, 3, 1, 8, -1, 4, 2, 9, -1, 5, 3, 10, -1, -1, 4, 11, -1, 7, -1, 12, 0, 8, 6, 13, 1, 9, 7, 14, 2, 10, 8, 15, 3, 11, 9, 16, 4, -1, 10, 17, 5, 13, -1, 18, 6, 14, 12, 19, 7, 15, 13, 20, 8, 16, 14, 21, 9, 17, 15, 22, 10, -1, 16, 23, 11, 19, -1, 24, 12, 20, 18, 25, 13, 21, 19, 26, 14, 22, 20, 27, 15, 23, 21, 28, 16, -1, 22, 29, 17, 25, -1, 30, 18, 26, 24, 31, 19, 27, 25, 32, 20, 28, 26, 33, 21, 29, 27, 34, 22, -1, 28, 35, 23, 31, -1, -1, 24, 32, 30, -1, 25, 33, 31, -1, 26, 34, 32, -1, 27, 35, 33, -1, 28, -1, 34, -1, 29])
def pz_isN : Cond → Bool
  | .fieldLinkNest _ _ _ _ _ _ => true
  | .methodLinkNest _ _ _ _ => true
  | _ => false
def pz_nw : List Cond := lw_tbl.filter pz_isN
def pz_txt (i : Nat) : Nat × String := match i with
  | 0 => (67, "boil")
  | 1 => (75, "fee")
  | 2 => (77, "fine")
  | 3 => (90, "btp")
  | 4 => (92, "ap")
  | _ => (94, "ac")
def pz_len : List Nat := [4, 3, 4, 3, 2, 2]
def pz_byt : List (List Int32) := [[98, 111, 105, 108], [102, 101, 101], [102, 105, 110, 101], [98, 116, 112], [97, 112], [97, 99]]
def pz_SG (E : pz_V) (U : State) (H : Heap) : Prop :=
  (∀ t, t < 4 → va_Z (pz_stn t).1 (pz_stn t).2.1 "[I" (.ref (E.2.2.2 (1000000 + t))) (pz_A E) U H ∧ va_T .int (E.2.2.2 (1000000 + t)) (pz_stn t).2.2.1 (fun j => .int ((pz_stn t).2.2.2.getD j 0)) (pz_A E) U H) ∧
  (∀ w ∈ pz_nw, va_Nw w U) ∧ (va_AO RX6 U ∧ va_AO RX4 U ∧ va_AO RX5 U) ∧
  va_Z "java/lang/String" "COMPACT_STRINGS" "Z" (.int 1) (pz_A E) U H ∧ (va_Z "jdk/internal/util/Preconditions" "SIOOBE_FORMATTER" "Ljava/util/function/BiFunction;" .null (pz_A E) U H ∨ va_Z "jdk/internal/util/Preconditions" "SIOOBE_FORMATTER" "Ljava/util/function/BiFunction;" (.ref (E.2.2.2 1000040)) (pz_A E) U H) ∧
  vk_S 6 pz_len pz_byt (fun i => E.2.2.2 (1000010 + i)) (fun i => E.2.2.2 (1000020 + i)) (pz_A E) U H ∧ ∀ i, i < 6 → vk_R RX3 (pz_txt i).1 (pz_txt i).2 (E.2.2.2 (1000010 + i)) U
theorem pz_Nw_warm {s U : State} (hW : s.WarmedH U.vm) {w : Cond} (hn : pz_isN w = true) (h : va_Nw w s) : va_Nw w U := by
  cases w <;> first | (exact va_Nw.warmF hW h) | (exact va_Nw.warmM hW h) | (exact absurd hn (by simp [pz_isN]))
theorem pz_Nw_same {u U : State} (hv : u.vm = U.vm) {w : Cond} (hn : pz_isN w = true) (h : va_Nw w u) : va_Nw w U := by
  cases w <;> first | (exact va_Nw.same rfl hv h) | (exact absurd hn (by simp [pz_isN]))
theorem pz_SG.kept {E : pz_V} {U : State} {H H' : Heap} (h : pz_SG E U H) (hk : ∀ q, q < E.2.2.1 → H'[q]? = H[q]?) : pz_SG E U H' := by
  have hq : ∀ a : Nat, a < H.size → ¬ pz_A E a → H'[a]? = H[a]? := fun a _ ha => hk a (Nat.not_le.mp ha)
  obtain ⟨h1, h2, h3, h4, h5, h6, h7⟩ := h
  exact ⟨fun t ht => ⟨(h1 t ht).1.kept hq, (h1 t ht).2.kept hq⟩, h2, h3, h4.kept hq, h5.elim (fun z => Or.inl (z.kept hq)) (fun z => Or.inr (z.kept hq)), h6.kept hq, h7⟩
theorem pz_SG.warm {E : pz_V} {s U : State} {H : Heap} (hW : s.WarmedH U.vm) (h : pz_SG E s H) : pz_SG E U H := by
  obtain ⟨h1, h2, h3, h4, h5, h6, h7⟩ := h
  have hvm := hW.alike
  exact ⟨fun t ht => ⟨(h1 t ht).1.moved hvm, (h1 t ht).2.moved hvm⟩, fun w hw => pz_Nw_warm hW (List.mem_filter.mp hw).2 (h2 w hw), ⟨h3.1.moved hvm, h3.2.1.moved hvm, h3.2.2.moved hvm⟩, h4.moved hvm, h5.elim (fun z => Or.inl (z.moved hvm)) (fun z => Or.inr (z.moved hvm)), h6.moved hvm, fun i hi => (h7 i hi).warm hW⟩
theorem pz_SG.same {E : pz_V} {u U : State} {H : Heap} (hv : u.vm = U.vm) (h : pz_SG E u H) : pz_SG E U H := by
  obtain ⟨h1, h2, h3, h4, h5, h6, h7⟩ := h
  have hvm : u.vm.Alike U.vm := hv ▸ Vm.Alike.refl u.vm
  exact ⟨fun t ht => ⟨(h1 t ht).1.moved hvm, (h1 t ht).2.moved hvm⟩, fun w hw => pz_Nw_same hv (List.mem_filter.mp hw).2 (h2 w hw), ⟨h3.1.moved hvm, h3.2.1.moved hvm, h3.2.2.moved hvm⟩, h4.moved hvm, h5.elim (fun z => Or.inl (z.moved hvm)) (fun z => Or.inr (z.moved hvm)), h6.moved hvm, fun i hi => (h7 i hi).same hv.symm⟩
/-! a method: (own class, bytes, locals, depth, its name, cells, slots, what it returns) -/
abbrev pz_K : Type := String × ByteArray × Nat × Nat × String × Nat × Nat × Option FieldType
abbrev pz_own (κ : pz_K) : String := κ.1
abbrev pz_cc (κ : pz_K) : ByteArray := κ.2.1
abbrev pz_nL (κ : pz_K) : Nat := κ.2.2.1
abbrev pz_d (κ : pz_K) : Nat := κ.2.2.2.1
abbrev pz_nm (κ : pz_K) : String := κ.2.2.2.2.1
abbrev pz_mc (κ : pz_K) : Nat := κ.2.2.2.2.2.1
abbrev pz_ms (κ : pz_K) : Nat := κ.2.2.2.2.2.2.1
abbrev pz_rt (κ : pz_K) : Option FieldType := κ.2.2.2.2.2.2.2
abbrev pz_L : Type := List (Option Value)
abbrev pz_Q : Type := Option Value → pz_M → Prop
def pz_Cx (φ : pz_V → State → Prop) (κ : pz_K) (E : pz_V) (p : Program) (R : Room) (s : State) (m : MethodId) (args : Array Value) (meth : Method) (c : Code) : Prop :=
  p.tables.exec = Jvm.exec ∧ c.code = pz_cc κ ∧ c.maxLocals = pz_nL κ ∧ s.vm.findClass (pz_own κ) = some m.cls ∧ (∀ w ∈ pz_TB, w.before args s = true) ∧ meth.name = pz_nm κ ∧ pz_d κ ≤ R.frames ∧ 40 * pz_d κ ≤ R.locals ∧ R.cells = pz_mc κ ∧ R.slots = pz_ms κ ∧ va_K E.1 pz_cls (pz_tys E) s ∧ pz_SG E s s.heap ∧ E.2.2.1 ≤ s.heap.size ∧ φ E s
def pz_ls (E : pz_V) (L : pz_L) (nL : Nat) (ls : Array Slot) : Prop := L.length = nL ∧ ls.size = nL ∧ lv_wf ls ∧ ∀ (i : Nat) (v : Value), L[i]? = some (some v) → ls[i]? = some (.val (pz_v E v))
def pz_rv (ret : Option FieldType) (ins : Instr) (v : Option Value) : Prop := match ins, v with
  | .ireturn, some (.int x) => ∃ ty, ret = some ty ∧ narrow ty (.int x) = .int x
  | .areturn, some (.ref _) => (∃ n, ret = some (.object n)) ∨ ∃ t, ret = some (.array t)
  | .areturn, some .null => (∃ n, ret = some (.object n)) ∨ ∃ t, ret = some (.array t)
  | .return_, none => ret = none
  | _, _ => False
/-- from here the method comes to its end, with Q of what it answers and of the memory -/
def pz_T (φ : pz_V → State → Prop) (κ : pz_K) (Q : pz_Q) (pc : Nat) (u : Nat × Nat) (L : pz_L) (S : List Value) (M : pz_M) : Prop :=
  ∀ (E : pz_V) (p : Program) (l : Launch) (e : Env) (R : Room) (s : State) (m : MethodId) (args : Array Value) (below : List Frame) (meth : Method) (c : Code) (H : Heap) (locs : List Loc) (ls : Array Slot) (P : State → Prop),
    pz_Cx φ κ E p R s m args meth c → u.1 ≤ pz_mc κ → u.2 ≤ pz_ms κ → pz_W E M H → va_S (pz_A E) s.heap H locs → pz_ls E L (pz_nL κ) ls →
    (∀ (pc' : Nat) (H' : Heap) (locs' : List Loc) (ls' : Array Slot) (M' : pz_M) (v : Option Value) (ins : Instr), decode (pz_cc κ) pc' = .ok (ins, 1) → pz_rv (pz_rt κ) ins v → Q v M' → pz_W E M' H' → va_S (pz_A E) s.heap H' locs' →
      W p l e R s m args below meth c H' locs' (pz_mc κ) (pz_ms κ) P (F0 m pc' ls' ((v.map (pz_v E)).toList))) →
    W p l e R s m args below meth c H locs u.1 u.2 P (F0 m pc ls (S.map (pz_v E)))
/-- a method's contract: (name, own class .. what it returns) from these arguments and this memory -/
def pz_Pc (E : pz_V) (av : List Value) (M : pz_M) : Array Value → State → Prop := va_Pc (av.map (pz_v E)) (fun U => pz_W E M U.heap ∧ va_K E.1 pz_cls (pz_tys E) U ∧ pz_SG E U U.heap)
def pz_Qc (E : pz_V) (Q : pz_Q) : Array Value → State → Outcome → State → Prop := fun _ st o t => ∃ (v : Option Value) (M' : pz_M), o = .returned (v.map (pz_v E)) ∧ Q v M' ∧ pz_W E M' t.heap ∧ st.heap.size ≤ t.heap.size ∧ ∀ q, q < E.2.2.1 → t.heap[q]? = st.heap[q]?
def pz_rm (κ : pz_K) : Room := { frames := pz_d κ, cells := pz_mc κ, slots := pz_ms κ, locals := 40 * pz_d κ }
def pz_C (y : MethodName) (κ : pz_K) (av : List Value) (M : pz_M) (Q : pz_Q) : Prop :=
  ∀ (l : Launch) (E : pz_V), Met l y (.code y (pz_cc κ) (pz_nL κ) (pz_rt κ) :: pz_TB) (pz_rm κ) (pz_Pc E av M) (pz_Qc E Q) (pz_mc κ) (pz_ms κ) (pz_A E)
/-- the locals at a method's start -/
def pz_L0 : List Value → Nat → pz_L
  | _, 0 => []
  | [], n + 1 => none :: pz_L0 [] n
  | .long x :: vs, n + 1 => some (.long x) :: (match n with
    | 0 => []
    | k + 1 => none :: pz_L0 vs k)
  | .double _ :: _, n + 1 => none :: pz_L0 [] n
  | v :: vs, n + 1 => some v :: pz_L0 vs n
theorem pz_blind (E : pz_V) (av : List Value) (M : pz_M) : FrameBlind (pz_Pc E av M) := by
  intro a U g mk h
  obtain ⟨h1, h2, h3, h4⟩ := h
  exact ⟨h1, h2, va_K.moved (u := U) (U := U.calling g mk a) (Vm.Alike.refl U.vm) h3, pz_SG.same (u := U) rfl h4⟩
end
section
theorem pz_v_cat (E : pz_V) (v : Value) : (pz_v E v).category = v.category := by cases v <;> rfl
theorem pz_cats (E : pz_V) (S : List Value) : ((S.map (pz_v E)).map fun v => v.category) = S.map fun v => v.category := by
  rw [List.map_map]
  exact List.map_congr_left fun v _ => pz_v_cat E v
theorem pz_slen (E : pz_V) : ∀ av : List Value, (lg_sl (av.map (pz_v E))).length = (lg_sl av).length
  | [] => rfl
  | v :: av => by
    have ih := pz_slen E av
    simp only [lg_sl, List.map_cons, List.flatMap_cons, List.length_append] at ih ⊢
    rw [ih, pz_v_cat]
    by_cases h : v.category = 2 <;> simp [h]
theorem pz_L0_len : ∀ (av : List Value) (n : Nat), (pz_L0 av n).length = n
  | _, 0 => by cases ‹List Value› <;> rfl
  | [], n + 1 => by simp [pz_L0, pz_L0_len [] n]
  | v :: vs, n + 1 => by
    cases v with
    | long x =>
      cases n with
      | zero => rfl
      | succ k => simp [pz_L0, pz_L0_len vs k]
    | double x => simp [pz_L0, pz_L0_len [] n]
    | _ => simp [pz_L0, pz_L0_len vs n]
theorem pz_L0_at (E : pz_V) : ∀ (n o : Nat) (av : List Value) (i : Nat) (v : Value), (pz_L0 av n)[i]? = some (some v) → (o + i, pz_v E v) ∈ lv_args o (av.map (pz_v E)) := by
  intro n
  induction n using Nat.strongRecOn with
  | _ n ih =>
    intro o av i v h
    match n, av, h with
    | 0, av, h => cases av <;> simp [pz_L0] at h
    | n + 1, [], h =>
      exfalso
      cases i with
      | zero => simp [pz_L0] at h
      | succ i =>
        simp only [pz_L0, List.getElem?_cons_succ] at h
        have := ih n (by omega) 0 [] i v h
        simp [lv_args] at this
    | n + 1, w :: vs, h =>
      cases w with
      | long x =>
        cases i with
        | zero =>
          have h : some (Value.long x) = some v := by
            cases n <;> simpa [pz_L0] using h
          cases h
          simp [lv_args, pz_v]
        | succ i =>
          cases n with
          | zero => simp [pz_L0] at h
          | succ k =>
            cases i with
            | zero => simp [pz_L0] at h
            | succ i =>
              have h : (pz_L0 vs k)[i]? = some (some v) := by simpa [pz_L0] using h
              have := ih k (by omega) (o + 2) vs i v h
              rw [show o + (i + 1 + 1) = o + 2 + i by omega]
              simp only [List.map_cons, lv_args]
              exact List.mem_cons_of_mem _ this
      | double x =>
        exfalso
        cases i with
        | zero => simp [pz_L0] at h
        | succ i =>
          have h : (pz_L0 [] n)[i]? = some (some v) := by simpa [pz_L0] using h
          have := ih n (by omega) 0 [] i v h
          simp [lv_args] at this
      | _ =>
        cases i with
        | zero =>
          simp only [pz_L0, List.getElem?_cons_zero, Option.some.injEq] at h
          subst h
          simp [lv_args, pz_v]
        | succ i =>
          simp only [pz_L0, List.getElem?_cons_succ] at h
          have := ih n (by omega) (o + 1) vs i v h
          rw [show o + (i + 1) = o + 1 + i by omega]
          simp only [List.map_cons, lv_args]
          exact List.mem_cons_of_mem _ this
theorem pz_entry (E : pz_V) (av : List Value) (n : Nat) (h : (lg_sl av).length ≤ n) : pz_ls E (pz_L0 av n) n ((lg_sl (av.map (pz_v E)) ++ List.replicate (n - (lg_sl (av.map (pz_v E))).length) Slot.unset).toArray) := by
  have hl := lv_entry (av.map (pz_v E)) (n := n) (by rw [pz_slen]; exact h)
  refine ⟨pz_L0_len av n, hl.1, hl.2.1, fun i v hv => ?_⟩
  have := pz_L0_at E n 0 av i v hv
  rw [Nat.zero_add] at this
  exact hl.2.2 _ this
theorem pz_C_of {y : MethodName} {κ : pz_K} {av : List Value} {M : pz_M} {Q : pz_Q} (hy : plainName y.cls = true) (ho : y.cls = pz_own κ) (hn : y.name = pz_nm κ) (hlen : (lg_sl av).length ≤ pz_nL κ)
    (h : pz_T (fun _ _ => True) κ Q 0 (0, 0) (pz_L0 av (pz_nL κ)) [] M) : pz_C y κ av M Q := by
  intro l E
  refine Met.ofW (cc := pz_cc κ) (maxL := pz_nL κ) (ret := pz_rt κ) hy rfl ?_
  intro p e s m args below meth c s₁ B hml hv
  obtain ⟨rfl, hW, hK, hG⟩ := hv
  have hx := B.exec
  have hb := B.bytes
  have hr := B.returns
  have hts := atoms_spec (ws := .code y (pz_cc κ) (pz_nL κ) (pz_rt κ) :: pz_TB) B.pre
  have hown : s.vm.findClass (pz_own κ) = some m.cls := by rw [← ho]; exact findClass_of_methodNamed B.named
  have hlocks := B.notSynchronized
  have hin : meth.name = pz_nm κ := by rw [← hn]; exact (name_of_methodNamed B.named B.method).1
  rw [lg_entry_eq]
  refine h E p l e _ s m _ below meth c s.heap [] _ _ ⟨hx, hb, hml, hown, fun w hw => hts w (List.mem_cons_of_mem _ hw), hin, Nat.le_refl _, Nat.le_refl _, rfl, rfl, hK, hG, by rw [hW.1]; omega, trivial⟩ (Nat.zero_le _) (Nat.zero_le _) hW va_S.rf (pz_entry E av _ hlen) ?_
  intro pc' H' locs' ls' M' v ins hd hrv hq hW' hS'
  have hkeep : ∀ q, q < E.2.2.1 → H'[q]? = s.heap[q]? := fun q hq => hS'.2.1 q (by rw [hW.1]; omega) (Nat.not_le.mpr hq)
  have hQ : ∀ t : State, t.heap = H' → s.WarmedH t.vm → pz_Qc E Q (List.map (pz_v E) av).toArray s (.returned (v.map (pz_v E))) t := fun t ht _ => ⟨v, M', rfl, hq, by rw [ht]; exact hW', by rw [ht]; exact hS'.1, fun q hq => by rw [ht]; exact hkeep q hq⟩
  unfold pz_rv at hrv
  split at hrv
  · obtain ⟨ty, e1, e2⟩ := hrv
    exact W.zret hx hb (hr.trans e1) e2 hQ hS'.2.2 hd
  · rcases hrv with ⟨n, e1⟩ | ⟨t, e1⟩
    · exact W.aret hx hb (hr.trans e1) (Or.inl ⟨n, rfl⟩) (Or.inr ⟨_, rfl⟩) hQ hS'.2.2 hd
    · exact W.aret hx hb (hr.trans e1) (Or.inr ⟨t, rfl⟩) (Or.inr ⟨_, rfl⟩) hQ hS'.2.2 hd
  · rcases hrv with ⟨n, e1⟩ | ⟨t, e1⟩
    · exact W.aret hx hb (hr.trans e1) (Or.inl ⟨n, rfl⟩) (Or.inl rfl) hQ hS'.2.2 hd
    · exact W.aret hx hb (hr.trans e1) (Or.inr ⟨t, rfl⟩) (Or.inl rfl) hQ hS'.2.2 hd
  · exact W.vret hx hb (hr.trans hrv) hQ hS'.2.2 hd
  · exact hrv.elim
end
section
/-! the instructions: what each asks of what stands behind it, and that it is so -/
def pz_nth {α : Type} : List α → Nat → Option α
  | [], _ => none
  | a :: _, 0 => some a
  | _ :: l, n + 1 => pz_nth l n
def pz_set {α : Type} : List α → Nat → α → List α
  | [], _, _ => []
  | _ :: l, 0, x => x :: l
  | a :: l, n + 1, x => a :: pz_set l n x
theorem pz_nth_eq {α : Type} : ∀ (l : List α) (i : Nat), pz_nth l i = l[i]?
  | [], i => by simp [pz_nth]
  | a :: l, 0 => by simp [pz_nth]
  | a :: l, n + 1 => by simp [pz_nth, pz_nth_eq l n]
theorem pz_set_eq {α : Type} : ∀ (l : List α) (i : Nat) (x : α), pz_set l i x = l.set i x
  | [], i, x => by simp [pz_set]
  | a :: l, 0, x => by simp [pz_set]
  | a :: l, n + 1, x => by simp [pz_set, pz_set_eq l n x]
abbrev pz_k : Type := Nat → Nat × Nat → pz_L → List Value → pz_M → Prop
abbrev pz_I : Type := pz_Q → pz_k → Nat × Nat → pz_L → List Value → pz_M → Prop
def pz_S (κ : pz_K) (pc : Nat) (x : pz_I) : Prop := ∀ (φ : pz_V → State → Prop) (Q : pz_Q) (k : pz_k) (u : Nat × Nat) (L : pz_L) (S : List Value) (M : pz_M), x Q k u L S M → (∀ (pc' : Nat) (u' : Nat × Nat) (L' : pz_L) (S' : List Value) (M' : pz_M), k pc' u' L' S' M' → pz_T φ κ Q pc' u' L' S' M') → pz_T φ κ Q pc u L S M
theorem pz_ls.int {E : pz_V} {L : pz_L} {nL : Nat} {ls : Array Slot} (h : pz_ls E L nL ls) {i : Nat} {v : Value} (hi : pz_nth L i = some (some v)) : ls[i]? = some (.val (pz_v E v)) := h.2.2.2 i v (by rw [← pz_nth_eq]; exact hi)
/-- a store into a local, of one word -/
def pz_sto (L : pz_L) (i : Nat) (v : Value) : Option pz_L := match pz_nth L i with
  | none => none
  | some _ => match i with
    | 0 => some (pz_set L 0 (some v))
    | j + 1 => match pz_nth L j with
      | some (some (.long _)) => none
      | some (some (.double _)) => none
      | _ => some (pz_set L (j + 1) (some v))
theorem pz_sto_ok {E : pz_V} {L L' : pz_L} {nL : Nat} {ls : Array Slot} {i : Nat} {v : Value} (h : pz_ls E L nL ls) (hc : v.category = 1) (hs : pz_sto L i v = some L') :
    i < nL ∧ ∃ lv : List (Nat × Value), lv_has ls nL lv ∧ ∀ ls' : Array Slot, lv_has ls' nL ((i, pz_v E v) :: lv.filter (fun q => !(q.1 == i) && !(q.1 + 1 == i && q.2.category == 2))) → pz_ls E L' nL ls' := by
  have hlt : i < L.length := by
    unfold pz_sto at hs
    split at hs
    · cases hs
    · next _ hq => rw [pz_nth_eq] at hq; exact (List.getElem?_eq_some_iff.mp hq).1
  have hL' : L' = L.set i (some v) ∧ ∀ (j : Nat) (w : Value), j + 1 = i → L[j]? = some (some w) → w.category = 1 := by
    unfold pz_sto at hs
    split at hs
    · cases hs
    · cases i with
      | zero =>
        simp only [Option.some.injEq] at hs
        exact ⟨by rw [← hs, pz_set_eq], fun j w hj => by omega⟩
      | succ j =>
        dsimp only at hs
        split at hs
        · cases hs
        · cases hs
        · next hn1 hn2 =>
          simp only [Option.some.injEq] at hs
          refine ⟨by rw [← hs, pz_set_eq], fun j' w hj hw => ?_⟩
          have : j' = j := by omega
          subst this
          rw [← pz_nth_eq] at hw
          cases w with
          | long x => exact absurd hw (hn1 x)
          | double x => exact absurd hw (hn2 x)
          | _ => rfl
  obtain ⟨h1, h2, h3, h4⟩ := h
  refine ⟨by omega, (List.range nL).filterMap (fun j => match L[j]? with | some (some w) => some (j, pz_v E w) | _ => none), ⟨h2, h3, fun q hq => ?_⟩, fun ls' hl' => ⟨?_, hl'.1, hl'.2.1, fun j w hw => ?_⟩⟩
  · obtain ⟨j, hj, hq⟩ := List.mem_filterMap.mp hq
    split at hq
    · next w hw =>
      cases hq
      exact h4 j w hw
    · cases hq
  · rw [hL'.1, List.length_set]; exact h1
  · rw [hL'.1] at hw
    by_cases hj : j = i
    · subst hj
      rw [List.getElem?_set_self hlt] at hw
      cases hw
      exact hl'.2.2 (j, pz_v E v) List.mem_cons_self
    · rw [List.getElem?_set_ne (fun q => hj q.symm)] at hw
      refine hl'.2.2 (j, pz_v E w) (List.mem_cons_of_mem _ (List.mem_filter.mpr ⟨List.mem_filterMap.mpr ⟨j, List.mem_range.mpr ?_, ?_⟩, ?_⟩))
      · have := (List.getElem?_eq_some_iff.mp hw).1
        omega
      · rw [hw]
      · simp only [Bool.and_eq_true, Bool.not_eq_true', beq_eq_false_iff_ne, ne_eq, Bool.and_eq_false_iff]
        refine ⟨hj, ?_⟩
        by_cases hji : j + 1 = i
        · right
          have := hL'.2 j w hji hw
          rw [pz_v_cat, this]
          decide
        · exact Or.inl hji
def pz_ic (v : Int32) (n : Nat) : pz_I := fun Q k u L S M => k n u L (.int v :: S) M
theorem pz_s_iconst {κ : pz_K} {pc : Nat} {a : Int} {v : Int32} (hd : decode (pz_cc κ) pc = .ok (.iconst a, 1)) (hv : Int32.ofInt a = v) : pz_S κ pc (pz_ic v (pc + 1)) := by
  intro φ Q k u L S M h hk E p l e R s m args below meth c H locs ls P C h1 h2 hW hS hl hr
  have hx := C.1
  have hb := C.2.1
  exact lv_iconst hx hb hd hv (hk _ _ _ _ _ h E p l e R s m args below meth c H locs ls P C h1 h2 hW hS hl hr)
theorem pz_s_bipush {κ : pz_K} {pc : Nat} {a : Int} {v : Int32} (hd : decode (pz_cc κ) pc = .ok (.bipush a, 2)) (hv : (Int8.ofInt a).toInt32 = v) : pz_S κ pc (pz_ic v (pc + 2)) := by
  intro φ Q k u L S M h hk E p l e R s m args below meth c H locs ls P C h1 h2 hW hS hl hr
  have hx := C.1
  have hb := C.2.1
  exact lv_bipush hx hb hd hv (hk _ _ _ _ _ h E p l e R s m args below meth c H locs ls P C h1 h2 hW hS hl hr)
theorem pz_s_sipush {κ : pz_K} {pc : Nat} {a : Int} {v : Int32} (hd : decode (pz_cc κ) pc = .ok (.sipush a, 3)) (hv : (Int16.ofInt a).toInt32 = v) : pz_S κ pc (pz_ic v (pc + 3)) := by
  intro φ Q k u L S M h hk E p l e R s m args below meth c H locs ls P C h1 h2 hW hS hl hr
  have hx := C.1
  have hb := C.2.1
  exact lv_sipush hx hb hd hv (hk _ _ _ _ _ h E p l e R s m args below meth c H locs ls P C h1 h2 hW hS hl hr)
theorem pz_s_ldc {κ : pz_K} {pc : Nat} {i : Nat} {v : Int32} (hd : decode (pz_cc κ) pc = .ok (.ldc i, 2)) (hw : Cond.constant (pz_own κ) i v ∈ pz_TB) : pz_S κ pc (pz_ic v (pc + 2)) := by
  intro φ Q k u L S M h hk E p l e R s m args below meth c H locs ls P C h1 h2 hW hS hl hr
  have hx := C.1
  have hb := C.2.1
  exact lv_ldc hx hb C.2.2.2.1 (C.2.2.2.2.1 _ hw) hd (hk _ _ _ _ _ h E p l e R s m args below meth c H locs ls P C h1 h2 hW hS hl hr)
theorem pz_s_ldcw {κ : pz_K} {pc : Nat} {i : Nat} {v : Int32} (hd : decode (pz_cc κ) pc = .ok (.ldc_w i, 3)) (hw : Cond.constant (pz_own κ) i v ∈ pz_TB) : pz_S κ pc (pz_ic v (pc + 3)) := by
  intro φ Q k u L S M h hk E p l e R s m args below meth c H locs ls P C h1 h2 hW hS hl hr
  have hx := C.1
  have hb := C.2.1
  exact lv_ldcw hx hb C.2.2.2.1 (C.2.2.2.2.1 _ hw) hd (hk _ _ _ _ _ h E p l e R s m args below meth c H locs ls P C h1 h2 hW hS hl hr)
def pz_lc (v : Int64) (n : Nat) : pz_I := fun Q k u L S M => k n u L (.long v :: S) M
theorem pz_s_lconst {κ : pz_K} {pc : Nat} {a : Fin 2} {v : Int64} (hd : decode (pz_cc κ) pc = .ok (.lconst a, 1)) (hv : Int64.ofNat (a : Nat) = v) : pz_S κ pc (pz_lc v (pc + 1)) := by
  intro φ Q k u L S M h hk E p l e R s m args below meth c H locs ls P C h1 h2 hW hS hl hr
  have hx := C.1
  have hb := C.2.1
  exact lv_lconst hx hb hd hv (hk _ _ _ _ _ h E p l e R s m args below meth c H locs ls P C h1 h2 hW hS hl hr)
theorem pz_s_ldc2 {κ : pz_K} {pc : Nat} {i : Nat} {v : Int64} (hd : decode (pz_cc κ) pc = .ok (.ldc2_w i, 3)) (hw : Cond.constantLong (pz_own κ) i v ∈ pz_TB) : pz_S κ pc (pz_lc v (pc + 3)) := by
  intro φ Q k u L S M h hk E p l e R s m args below meth c H locs ls P C h1 h2 hW hS hl hr
  have hx := C.1
  have hb := C.2.1
  exact lv_ldc2 hx hb C.2.2.2.1 (C.2.2.2.2.1 _ hw) hd (hk _ _ _ _ _ h E p l e R s m args below meth c H locs ls P C h1 h2 hW hS hl hr)
def pz_null (n : Nat) : pz_I := fun Q k u L S M => k n u L (.null :: S) M
theorem pz_s_null {κ : pz_K} {pc : Nat}  (hd : decode (pz_cc κ) pc = .ok (.aconst_null, 1))  : pz_S κ pc (pz_null  (pc + 1)) := by
  intro φ Q k u L S M h hk E p l e R s m args below meth c H locs ls P C h1 h2 hW hS hl hr
  have hx := C.1
  have hb := C.2.1
  exact lv_null hx hb hd (hk _ _ _ _ _ h E p l e R s m args below meth c H locs ls P C h1 h2 hW hS hl hr)
def pz_il (i n : Nat) : pz_I := fun Q k u L S M => match pz_nth L i with
  | some (some (.int x)) => k n u L (.int x :: S) M
  | _ => False
theorem pz_s_iload_n {κ : pz_K} {pc : Nat} {a : Fin 4} {i : Nat} (hd : decode (pz_cc κ) pc = .ok (.iload_n a, 1)) (hi : (a : Nat) = i) : pz_S κ pc (pz_il i (pc + 1)) := by
  intro φ Q k u L S M h hk E p l e R s m args below meth c H locs ls P C h1 h2 hW hS hl hr
  have hx := C.1
  have hb := C.2.1
  unfold pz_il at h
  split at h
  · next x hq => exact lv_iload_n (x := x) hx hb hd hi (hl.int hq) (hk _ _ _ _ _ h E p l e R s m args below meth c H locs ls P C h1 h2 hW hS hl hr)
  · exact h.elim
theorem pz_s_iload {κ : pz_K} {pc : Nat} {i : Nat} (hd : decode (pz_cc κ) pc = .ok (.iload i, 2))  : pz_S κ pc (pz_il i (pc + 2)) := by
  intro φ Q k u L S M h hk E p l e R s m args below meth c H locs ls P C h1 h2 hW hS hl hr
  have hx := C.1
  have hb := C.2.1
  unfold pz_il at h
  split at h
  · next x hq => exact lv_iload (x := x) hx hb hd (hl.int hq) (hk _ _ _ _ _ h E p l e R s m args below meth c H locs ls P C h1 h2 hW hS hl hr)
  · exact h.elim
def pz_ll (i n : Nat) : pz_I := fun Q k u L S M => match pz_nth L i with
  | some (some (.long x)) => k n u L (.long x :: S) M
  | _ => False
theorem pz_s_lload_n {κ : pz_K} {pc : Nat} {a : Fin 4} {i : Nat} (hd : decode (pz_cc κ) pc = .ok (.lload_n a, 1)) (hi : (a : Nat) = i) : pz_S κ pc (pz_ll i (pc + 1)) := by
  intro φ Q k u L S M h hk E p l e R s m args below meth c H locs ls P C h1 h2 hW hS hl hr
  have hx := C.1
  have hb := C.2.1
  unfold pz_ll at h
  split at h
  · next x hq => exact lv_lload_n (x := x) hx hb hd hi (hl.int hq) (hk _ _ _ _ _ h E p l e R s m args below meth c H locs ls P C h1 h2 hW hS hl hr)
  · exact h.elim
theorem pz_s_lload {κ : pz_K} {pc : Nat} {i : Nat} (hd : decode (pz_cc κ) pc = .ok (.lload i, 2))  : pz_S κ pc (pz_ll i (pc + 2)) := by
  intro φ Q k u L S M h hk E p l e R s m args below meth c H locs ls P C h1 h2 hW hS hl hr
  have hx := C.1
  have hb := C.2.1
  unfold pz_ll at h
  split at h
  · next x hq => exact lv_lload (x := x) hx hb hd (hl.int hq) (hk _ _ _ _ _ h E p l e R s m args below meth c H locs ls P C h1 h2 hW hS hl hr)
  · exact h.elim
def pz_al (i n : Nat) : pz_I := fun Q k u L S M => match pz_nth L i with
  | some (some (.ref x)) => k n u L (.ref x :: S) M
  | some (some .null) => k n u L (.null :: S) M
  | _ => False
theorem pz_s_aload_n {κ : pz_K} {pc : Nat} {a : Fin 4} {i : Nat} (hd : decode (pz_cc κ) pc = .ok (.aload_n a, 1)) (hi : (a : Nat) = i) : pz_S κ pc (pz_al i (pc + 1)) := by
  intro φ Q k u L S M h hk E p l e R s m args below meth c H locs ls P C h1 h2 hW hS hl hr
  have hx := C.1
  have hb := C.2.1
  unfold pz_al at h
  split at h
  · next x hq => exact lv_aload_n (x := pz_x E x) hx hb hd hi (hl.int hq) (hk _ _ _ _ _ h E p l e R s m args below meth c H locs ls P C h1 h2 hW hS hl hr)
  · next hq => exact lv_aload_nN hx hb hd hi (hl.int hq) (hk _ _ _ _ _ h E p l e R s m args below meth c H locs ls P C h1 h2 hW hS hl hr)
  · exact h.elim
theorem pz_s_aload {κ : pz_K} {pc : Nat} {i : Nat} (hd : decode (pz_cc κ) pc = .ok (.aload i, 2))  : pz_S κ pc (pz_al i (pc + 2)) := by
  intro φ Q k u L S M h hk E p l e R s m args below meth c H locs ls P C h1 h2 hW hS hl hr
  have hx := C.1
  have hb := C.2.1
  unfold pz_al at h
  split at h
  · next x hq => exact lv_aload (x := pz_x E x) hx hb hd (hl.int hq) (hk _ _ _ _ _ h E p l e R s m args below meth c H locs ls P C h1 h2 hW hS hl hr)
  · next hq => exact lv_aloadN hx hb hd (hl.int hq) (hk _ _ _ _ _ h E p l e R s m args below meth c H locs ls P C h1 h2 hW hS hl hr)
  · exact h.elim
def pz_is (i n : Nat) : pz_I := fun Q k u L S M => match S with
  | .int x :: S => match pz_sto L i (.int x) with
    | some L => k n u L S M
    | none => False
  | _ => False
theorem pz_s_istore_n {κ : pz_K} {pc : Nat} {a : Fin 4} {i : Nat} (hd : decode (pz_cc κ) pc = .ok (.istore_n a, 1)) (hi : (a : Nat) = i) : pz_S κ pc (pz_is i (pc + 1)) := by
  intro φ Q k u L S M h hk E p l e R s m args below meth c H locs ls P C h1 h2 hW hS hl hr
  have hx := C.1
  have hb := C.2.1
  unfold pz_is at h
  split at h
  · next x S' =>
    split at h
    · next L' hq =>
      obtain ⟨hi', lv, hlv, hup⟩ := pz_sto_ok (v := .int x) hl rfl hq
      exact lv_istore_n hx hb hd hi hlv hi' rfl (fun ls' hl' => hk _ _ _ _ _ h E p l e R s m args below meth c H locs ls' P C h1 h2 hW hS (hup ls' hl') hr)
    · exact h.elim
  · exact h.elim
theorem pz_s_istore {κ : pz_K} {pc : Nat} {i : Nat} (hd : decode (pz_cc κ) pc = .ok (.istore i, 2))  : pz_S κ pc (pz_is i (pc + 2)) := by
  intro φ Q k u L S M h hk E p l e R s m args below meth c H locs ls P C h1 h2 hW hS hl hr
  have hx := C.1
  have hb := C.2.1
  unfold pz_is at h
  split at h
  · next x S' =>
    split at h
    · next L' hq =>
      obtain ⟨hi', lv, hlv, hup⟩ := pz_sto_ok (v := .int x) hl rfl hq
      exact lv_istore hx hb hd  hlv hi' rfl (fun ls' hl' => hk _ _ _ _ _ h E p l e R s m args below meth c H locs ls' P C h1 h2 hW hS (hup ls' hl') hr)
    · exact h.elim
  · exact h.elim
def pz_as (i n : Nat) : pz_I := fun Q k u L S M => match S with
  | .ref x :: S => match pz_sto L i (.ref x) with
    | some L => k n u L S M
    | none => False
  | .null :: S => match pz_sto L i .null with
    | some L => k n u L S M
    | none => False
  | _ => False
theorem pz_s_astore_n {κ : pz_K} {pc : Nat} {a : Fin 4} {i : Nat} (hd : decode (pz_cc κ) pc = .ok (.astore_n a, 1)) (hi : (a : Nat) = i) : pz_S κ pc (pz_as i (pc + 1)) := by
  intro φ Q k u L S M h hk E p l e R s m args below meth c H locs ls P C h1 h2 hW hS hl hr
  have hx := C.1
  have hb := C.2.1
  unfold pz_as at h
  split at h
  · next x S' =>
    split at h
    · next L' hq =>
      obtain ⟨hi', lv, hlv, hup⟩ := pz_sto_ok (v := .ref x) hl rfl hq
      exact lv_astore_n hx hb hd hi hlv hi' rfl (fun ls' hl' => hk _ _ _ _ _ h E p l e R s m args below meth c H locs ls' P C h1 h2 hW hS (hup ls' hl') hr)
    · exact h.elim
  · next S' =>
    split at h
    · next L' hq =>
      obtain ⟨hi', lv, hlv, hup⟩ := pz_sto_ok (v := .null) hl rfl hq
      exact lv_astore_nN hx hb hd hi hlv hi' rfl (fun ls' hl' => hk _ _ _ _ _ h E p l e R s m args below meth c H locs ls' P C h1 h2 hW hS (hup ls' hl') hr)
    · exact h.elim
  · exact h.elim
theorem pz_s_astore {κ : pz_K} {pc : Nat} {i : Nat} (hd : decode (pz_cc κ) pc = .ok (.astore i, 2))  : pz_S κ pc (pz_as i (pc + 2)) := by
  intro φ Q k u L S M h hk E p l e R s m args below meth c H locs ls P C h1 h2 hW hS hl hr
  have hx := C.1
  have hb := C.2.1
  unfold pz_as at h
  split at h
  · next x S' =>
    split at h
    · next L' hq =>
      obtain ⟨hi', lv, hlv, hup⟩ := pz_sto_ok (v := .ref x) hl rfl hq
      exact lv_astore hx hb hd  hlv hi' rfl (fun ls' hl' => hk _ _ _ _ _ h E p l e R s m args below meth c H locs ls' P C h1 h2 hW hS (hup ls' hl') hr)
    · exact h.elim
  · next S' =>
    split at h
    · next L' hq =>
      obtain ⟨hi', lv, hlv, hup⟩ := pz_sto_ok (v := .null) hl rfl hq
      exact lv_astoreN hx hb hd  hlv hi' rfl (fun ls' hl' => hk _ _ _ _ _ h E p l e R s m args below meth c H locs ls' P C h1 h2 hW hS (hup ls' hl') hr)
    · exact h.elim
  · exact h.elim
def pz_inc (i : Nat) (z : Int32) (n : Nat) : pz_I := fun Q k u L S M => match pz_nth L i with
  | some (some (.int x)) => match pz_sto L i (.int (x + z)) with
    | some L => k n u L S M
    | none => False
  | _ => False
def pz_iadd (n : Nat) : pz_I := fun Q k u L S M => match S with
  | .int y :: .int x :: S => k n u L (.int (x + y) :: S) M
  | _ => False
theorem pz_s_iadd {κ : pz_K} {pc : Nat}  (hd : decode (pz_cc κ) pc = .ok (.iadd, 1))  : pz_S κ pc (pz_iadd  (pc + 1)) := by
  intro φ Q k u L S M h hk E p l e R s m args below meth c H locs ls P C h1 h2 hW hS hl hr
  have hx := C.1
  have hb := C.2.1
  unfold pz_iadd at h
  split at h
  · next y x S' => exact lv_iadd (x := x) (y := y) hx hb hd (hk _ _ _ _ _ h E p l e R s m args below meth c H locs ls P C h1 h2 hW hS hl hr)
  · exact h.elim
def pz_isub (n : Nat) : pz_I := fun Q k u L S M => match S with
  | .int y :: .int x :: S => k n u L (.int (x - y) :: S) M
  | _ => False
theorem pz_s_isub {κ : pz_K} {pc : Nat}  (hd : decode (pz_cc κ) pc = .ok (.isub, 1))  : pz_S κ pc (pz_isub  (pc + 1)) := by
  intro φ Q k u L S M h hk E p l e R s m args below meth c H locs ls P C h1 h2 hW hS hl hr
  have hx := C.1
  have hb := C.2.1
  unfold pz_isub at h
  split at h
  · next y x S' => exact lv_isub (x := x) (y := y) hx hb hd (hk _ _ _ _ _ h E p l e R s m args below meth c H locs ls P C h1 h2 hW hS hl hr)
  · exact h.elim
def pz_imul (n : Nat) : pz_I := fun Q k u L S M => match S with
  | .int y :: .int x :: S => k n u L (.int (x * y) :: S) M
  | _ => False
theorem pz_s_imul {κ : pz_K} {pc : Nat}  (hd : decode (pz_cc κ) pc = .ok (.imul, 1))  : pz_S κ pc (pz_imul  (pc + 1)) := by
  intro φ Q k u L S M h hk E p l e R s m args below meth c H locs ls P C h1 h2 hW hS hl hr
  have hx := C.1
  have hb := C.2.1
  unfold pz_imul at h
  split at h
  · next y x S' => exact lv_imul (x := x) (y := y) hx hb hd (hk _ _ _ _ _ h E p l e R s m args below meth c H locs ls P C h1 h2 hW hS hl hr)
  · exact h.elim
def pz_iand (n : Nat) : pz_I := fun Q k u L S M => match S with
  | .int y :: .int x :: S => k n u L (.int (x &&& y) :: S) M
  | _ => False
theorem pz_s_iand {κ : pz_K} {pc : Nat}  (hd : decode (pz_cc κ) pc = .ok (.iand, 1))  : pz_S κ pc (pz_iand  (pc + 1)) := by
  intro φ Q k u L S M h hk E p l e R s m args below meth c H locs ls P C h1 h2 hW hS hl hr
  have hx := C.1
  have hb := C.2.1
  unfold pz_iand at h
  split at h
  · next y x S' => exact lv_iand (x := x) (y := y) hx hb hd (hk _ _ _ _ _ h E p l e R s m args below meth c H locs ls P C h1 h2 hW hS hl hr)
  · exact h.elim
def pz_ishl (n : Nat) : pz_I := fun Q k u L S M => match S with
  | .int y :: .int x :: S => k n u L (.int (x <<< (y &&& 31)) :: S) M
  | _ => False
theorem pz_s_ishl {κ : pz_K} {pc : Nat}  (hd : decode (pz_cc κ) pc = .ok (.ishl, 1))  : pz_S κ pc (pz_ishl  (pc + 1)) := by
  intro φ Q k u L S M h hk E p l e R s m args below meth c H locs ls P C h1 h2 hW hS hl hr
  have hx := C.1
  have hb := C.2.1
  unfold pz_ishl at h
  split at h
  · next y x S' => exact lv_ishl (x := x) (y := y) hx hb hd (hk _ _ _ _ _ h E p l e R s m args below meth c H locs ls P C h1 h2 hW hS hl hr)
  · exact h.elim
def pz_ishr (n : Nat) : pz_I := fun Q k u L S M => match S with
  | .int y :: .int x :: S => k n u L (.int (x >>> (y &&& 31)) :: S) M
  | _ => False
theorem pz_s_ishr {κ : pz_K} {pc : Nat}  (hd : decode (pz_cc κ) pc = .ok (.ishr, 1))  : pz_S κ pc (pz_ishr  (pc + 1)) := by
  intro φ Q k u L S M h hk E p l e R s m args below meth c H locs ls P C h1 h2 hW hS hl hr
  have hx := C.1
  have hb := C.2.1
  unfold pz_ishr at h
  split at h
  · next y x S' => exact lv_ishr (x := x) (y := y) hx hb hd (hk _ _ _ _ _ h E p l e R s m args below meth c H locs ls P C h1 h2 hW hS hl hr)
  · exact h.elim
def pz_iushr (n : Nat) : pz_I := fun Q k u L S M => match S with
  | .int y :: .int x :: S => k n u L (.int ((x.toUInt32 >>> (y.toUInt32 &&& Int32.toUInt32 31)).toInt32) :: S) M
  | _ => False
theorem pz_s_iushr {κ : pz_K} {pc : Nat}  (hd : decode (pz_cc κ) pc = .ok (.iushr, 1))  : pz_S κ pc (pz_iushr  (pc + 1)) := by
  intro φ Q k u L S M h hk E p l e R s m args below meth c H locs ls P C h1 h2 hW hS hl hr
  have hx := C.1
  have hb := C.2.1
  unfold pz_iushr at h
  split at h
  · next y x S' => exact lv_iushr (x := x) (y := y) hx hb hd rfl (hk _ _ _ _ _ h E p l e R s m args below meth c H locs ls P C h1 h2 hW hS hl hr)
  · exact h.elim
def pz_idiv (n : Nat) : pz_I := fun Q k u L S M => match S with
  | .int y :: .int x :: S => ¬ y = 0 ∧ k n u L (.int (x / y) :: S) M
  | _ => False
theorem pz_s_idiv {κ : pz_K} {pc : Nat}  (hd : decode (pz_cc κ) pc = .ok (.idiv, 1))  : pz_S κ pc (pz_idiv  (pc + 1)) := by
  intro φ Q k u L S M h hk E p l e R s m args below meth c H locs ls P C h1 h2 hW hS hl hr
  have hx := C.1
  have hb := C.2.1
  unfold pz_idiv at h
  split at h
  · next y x S' => exact lv_idiv (x := x) (y := y) hx hb hd h.1 (hk _ _ _ _ _ h.2 E p l e R s m args below meth c H locs ls P C h1 h2 hW hS hl hr)
  · exact h.elim
def pz_irem (n : Nat) : pz_I := fun Q k u L S M => match S with
  | .int y :: .int x :: S => ¬ y = 0 ∧ k n u L (.int (x - x / y * y) :: S) M
  | _ => False
theorem pz_s_irem {κ : pz_K} {pc : Nat}  (hd : decode (pz_cc κ) pc = .ok (.irem, 1))  : pz_S κ pc (pz_irem  (pc + 1)) := by
  intro φ Q k u L S M h hk E p l e R s m args below meth c H locs ls P C h1 h2 hW hS hl hr
  have hx := C.1
  have hb := C.2.1
  unfold pz_irem at h
  split at h
  · next y x S' => exact lv_irem (x := x) (y := y) hx hb hd h.1 (hk _ _ _ _ _ h.2 E p l e R s m args below meth c H locs ls P C h1 h2 hW hS hl hr)
  · exact h.elim
def pz_ineg (n : Nat) : pz_I := fun Q k u L S M => match S with
  | .int x :: S => k n u L (.int (-x) :: S) M
  | _ => False
theorem pz_s_ineg {κ : pz_K} {pc : Nat}  (hd : decode (pz_cc κ) pc = .ok (.ineg, 1))  : pz_S κ pc (pz_ineg  (pc + 1)) := by
  intro φ Q k u L S M h hk E p l e R s m args below meth c H locs ls P C h1 h2 hW hS hl hr
  have hx := C.1
  have hb := C.2.1
  unfold pz_ineg at h
  split at h
  · next x S' => exact lv_ineg (x := x) hx hb hd (hk _ _ _ _ _ h E p l e R s m args below meth c H locs ls P C h1 h2 hW hS hl hr)
  · exact h.elim
def pz_i2b (n : Nat) : pz_I := fun Q k u L S M => match S with
  | .int x :: S => k n u L (.int (x.toInt8.toInt32) :: S) M
  | _ => False
theorem pz_s_i2b {κ : pz_K} {pc : Nat}  (hd : decode (pz_cc κ) pc = .ok (.i2b, 1))  : pz_S κ pc (pz_i2b  (pc + 1)) := by
  intro φ Q k u L S M h hk E p l e R s m args below meth c H locs ls P C h1 h2 hW hS hl hr
  have hx := C.1
  have hb := C.2.1
  unfold pz_i2b at h
  split at h
  · next x S' => exact lv_i2b (x := x) hx hb hd rfl (hk _ _ _ _ _ h E p l e R s m args below meth c H locs ls P C h1 h2 hW hS hl hr)
  · exact h.elim
def pz_i2s (n : Nat) : pz_I := fun Q k u L S M => match S with
  | .int x :: S => k n u L (.int (x.toInt16.toInt32) :: S) M
  | _ => False
theorem pz_s_i2s {κ : pz_K} {pc : Nat}  (hd : decode (pz_cc κ) pc = .ok (.i2s, 1))  : pz_S κ pc (pz_i2s  (pc + 1)) := by
  intro φ Q k u L S M h hk E p l e R s m args below meth c H locs ls P C h1 h2 hW hS hl hr
  have hx := C.1
  have hb := C.2.1
  unfold pz_i2s at h
  split at h
  · next x S' => exact lv_i2s (x := x) hx hb hd rfl (hk _ _ _ _ _ h E p l e R s m args below meth c H locs ls P C h1 h2 hW hS hl hr)
  · exact h.elim
def pz_i2c (n : Nat) : pz_I := fun Q k u L S M => match S with
  | .int x :: S => k n u L (.int ((x.toUInt32 % 65536).toInt32) :: S) M
  | _ => False
theorem pz_s_i2c {κ : pz_K} {pc : Nat}  (hd : decode (pz_cc κ) pc = .ok (.i2c, 1))  : pz_S κ pc (pz_i2c  (pc + 1)) := by
  intro φ Q k u L S M h hk E p l e R s m args below meth c H locs ls P C h1 h2 hW hS hl hr
  have hx := C.1
  have hb := C.2.1
  unfold pz_i2c at h
  split at h
  · next x S' => exact lv_i2c (x := x) hx hb hd rfl (hk _ _ _ _ _ h E p l e R s m args below meth c H locs ls P C h1 h2 hW hS hl hr)
  · exact h.elim
def pz_i2l (n : Nat) : pz_I := fun Q k u L S M => match S with
  | .int x :: S => k n u L (.long x.toInt64 :: S) M
  | _ => False
theorem pz_s_i2l {κ : pz_K} {pc : Nat}  (hd : decode (pz_cc κ) pc = .ok (.i2l, 1))  : pz_S κ pc (pz_i2l  (pc + 1)) := by
  intro φ Q k u L S M h hk E p l e R s m args below meth c H locs ls P C h1 h2 hW hS hl hr
  have hx := C.1
  have hb := C.2.1
  unfold pz_i2l at h
  split at h
  · next x S' => exact lv_i2l (x := x) hx hb hd rfl (hk _ _ _ _ _ h E p l e R s m args below meth c H locs ls P C h1 h2 hW hS hl hr)
  · exact h.elim
def pz_ladd (n : Nat) : pz_I := fun Q k u L S M => match S with
  | .long y :: .long x :: S => k n u L (.long (x + y) :: S) M
  | _ => False
theorem pz_s_ladd {κ : pz_K} {pc : Nat}  (hd : decode (pz_cc κ) pc = .ok (.ladd, 1))  : pz_S κ pc (pz_ladd  (pc + 1)) := by
  intro φ Q k u L S M h hk E p l e R s m args below meth c H locs ls P C h1 h2 hW hS hl hr
  have hx := C.1
  have hb := C.2.1
  unfold pz_ladd at h
  split at h
  · next y x S' => exact lv_ladd (x := x) (y := y) hx hb hd (hk _ _ _ _ _ h E p l e R s m args below meth c H locs ls P C h1 h2 hW hS hl hr)
  · exact h.elim
def pz_lcmp (n : Nat) : pz_I := fun Q k u L S M => match S with
  | .long y :: .long x :: S => k n u L (.int (lg_cmp x y) :: S) M
  | _ => False
theorem pz_s_lcmp {κ : pz_K} {pc : Nat}  (hd : decode (pz_cc κ) pc = .ok (.lcmp, 1))  : pz_S κ pc (pz_lcmp  (pc + 1)) := by
  intro φ Q k u L S M h hk E p l e R s m args below meth c H locs ls P C h1 h2 hW hS hl hr
  have hx := C.1
  have hb := C.2.1
  unfold pz_lcmp at h
  split at h
  · next y x S' => exact W.lcmp (x := x) (y := y) hx hb hd (hk _ _ _ _ _ h E p l e R s m args below meth c H locs ls P C h1 h2 hW hS hl hr)
  · exact h.elim
def pz_dup (n : Nat) : pz_I := fun Q k u L S M => match S with
  | .int x :: S => k n u L (.int x :: .int x :: S) M
  | .ref x :: S => k n u L (.ref x :: .ref x :: S) M
  | _ => False
theorem pz_s_dup {κ : pz_K} {pc : Nat}  (hd : decode (pz_cc κ) pc = .ok (.dup, 1))  : pz_S κ pc (pz_dup  (pc + 1)) := by
  intro φ Q k u L S M h hk E p l e R s m args below meth c H locs ls P C h1 h2 hW hS hl hr
  have hx := C.1
  have hb := C.2.1
  unfold pz_dup at h
  split at h
  · next x S' => exact lv_dup (va := .int x) hx hb hd rfl (hk _ _ _ _ _ h E p l e R s m args below meth c H locs ls P C h1 h2 hW hS hl hr)
  · next x S' => exact lv_dup (va := .ref (pz_x E x)) hx hb hd rfl (hk _ _ _ _ _ h E p l e R s m args below meth c H locs ls P C h1 h2 hW hS hl hr)
  · exact h.elim
def pz_dup2 (n : Nat) : pz_I := fun Q k u L S M => match S with
  | .int y :: .ref x :: S => k n u L (.int y :: .ref x :: .int y :: .ref x :: S) M
  | _ => False
theorem pz_s_dup2 {κ : pz_K} {pc : Nat}  (hd : decode (pz_cc κ) pc = .ok (.dup2, 1))  : pz_S κ pc (pz_dup2  (pc + 1)) := by
  intro φ Q k u L S M h hk E p l e R s m args below meth c H locs ls P C h1 h2 hW hS hl hr
  have hx := C.1
  have hb := C.2.1
  unfold pz_dup2 at h
  split at h
  · next y x S' => exact lv_dup2_11 (va := .int y) (vb := .ref (pz_x E x)) hx hb hd rfl rfl (hk _ _ _ _ _ h E p l e R s m args below meth c H locs ls P C h1 h2 hW hS hl hr)
  · exact h.elim
def pz_pop (n : Nat) : pz_I := fun Q k u L S M => match S with
  | .int _ :: S => k n u L S M
  | .ref _ :: S => k n u L S M
  | _ => False
theorem pz_s_pop {κ : pz_K} {pc : Nat}  (hd : decode (pz_cc κ) pc = .ok (.pop, 1))  : pz_S κ pc (pz_pop  (pc + 1)) := by
  intro φ Q k u L S M h hk E p l e R s m args below meth c H locs ls P C h1 h2 hW hS hl hr
  have hx := C.1
  have hb := C.2.1
  unfold pz_pop at h
  split at h
  · next x S' => exact lv_pop (va := .int x) hx hb hd rfl (hk _ _ _ _ _ h E p l e R s m args below meth c H locs ls P C h1 h2 hW hS hl hr)
  · next x S' => exact lv_pop (va := .ref (pz_x E x)) hx hb hd rfl (hk _ _ _ _ _ h E p l e R s m args below meth c H locs ls P C h1 h2 hW hS hl hr)
  · exact h.elim
def pz_goto (t n : Nat) : pz_I := fun Q k u L S M => k t u L S M
theorem pz_s_goto {κ : pz_K} {pc tgt : Nat} {off : Int}  (hd : decode (pz_cc κ) pc = .ok (.goto off, 3)) (ht : (pc : Int) + off = (tgt : Int)) : pz_S κ pc (pz_goto  tgt (pc + 3)) := by
  intro φ Q k u L S M h hk E p l e R s m args below meth c H locs ls P C h1 h2 hW hS hl hr
  have hx := C.1
  have hb := C.2.1
  exact lv_goto hx hb hd ht (hk _ _ _ _ _ h E p l e R s m args below meth c H locs ls P C h1 h2 hW hS hl hr)
def pz_ifeq (t n : Nat) : pz_I := fun Q k u L S M => match S with
  | .int x :: S => (x = 0 → k t u L S M) ∧ (¬ x = 0 → k n u L S M)
  | _ => False
theorem pz_s_if_eq {κ : pz_K} {pc tgt : Nat} {off : Int}  (hd : decode (pz_cc κ) pc = .ok (.ifCond .eq off, 3)) (ht : (pc : Int) + off = (tgt : Int)) : pz_S κ pc (pz_ifeq  tgt (pc + 3)) := by
  intro φ Q k u L S M h hk E p l e R s m args below meth c H locs ls P C h1 h2 hW hS hl hr
  have hx := C.1
  have hb := C.2.1
  unfold pz_ifeq at h
  split at h
  · next x S' => exact lv_if_eq (x := x) hx hb hd ht (fun q => hk _ _ _ _ _ (h.1 q) E p l e R s m args below meth c H locs ls P C h1 h2 hW hS hl hr) (fun q => hk _ _ _ _ _ (h.2 q) E p l e R s m args below meth c H locs ls P C h1 h2 hW hS hl hr)
  · exact h.elim
def pz_ifne (t n : Nat) : pz_I := fun Q k u L S M => match S with
  | .int x :: S => (¬ x = 0 → k t u L S M) ∧ (x = 0 → k n u L S M)
  | _ => False
theorem pz_s_if_ne {κ : pz_K} {pc tgt : Nat} {off : Int}  (hd : decode (pz_cc κ) pc = .ok (.ifCond .ne off, 3)) (ht : (pc : Int) + off = (tgt : Int)) : pz_S κ pc (pz_ifne  tgt (pc + 3)) := by
  intro φ Q k u L S M h hk E p l e R s m args below meth c H locs ls P C h1 h2 hW hS hl hr
  have hx := C.1
  have hb := C.2.1
  unfold pz_ifne at h
  split at h
  · next x S' => exact lv_if_ne (x := x) hx hb hd ht (fun q => hk _ _ _ _ _ (h.1 q) E p l e R s m args below meth c H locs ls P C h1 h2 hW hS hl hr) (fun q => hk _ _ _ _ _ (h.2 q) E p l e R s m args below meth c H locs ls P C h1 h2 hW hS hl hr)
  · exact h.elim
def pz_iflt (t n : Nat) : pz_I := fun Q k u L S M => match S with
  | .int x :: S => (x < 0 → k t u L S M) ∧ (¬ x < 0 → k n u L S M)
  | _ => False
theorem pz_s_if_lt {κ : pz_K} {pc tgt : Nat} {off : Int}  (hd : decode (pz_cc κ) pc = .ok (.ifCond .lt off, 3)) (ht : (pc : Int) + off = (tgt : Int)) : pz_S κ pc (pz_iflt  tgt (pc + 3)) := by
  intro φ Q k u L S M h hk E p l e R s m args below meth c H locs ls P C h1 h2 hW hS hl hr
  have hx := C.1
  have hb := C.2.1
  unfold pz_iflt at h
  split at h
  · next x S' => exact lv_if_lt (x := x) hx hb hd ht (fun q => hk _ _ _ _ _ (h.1 q) E p l e R s m args below meth c H locs ls P C h1 h2 hW hS hl hr) (fun q => hk _ _ _ _ _ (h.2 q) E p l e R s m args below meth c H locs ls P C h1 h2 hW hS hl hr)
  · exact h.elim
def pz_ifge (t n : Nat) : pz_I := fun Q k u L S M => match S with
  | .int x :: S => (0 ≤ x → k t u L S M) ∧ (¬ 0 ≤ x → k n u L S M)
  | _ => False
theorem pz_s_if_ge {κ : pz_K} {pc tgt : Nat} {off : Int}  (hd : decode (pz_cc κ) pc = .ok (.ifCond .ge off, 3)) (ht : (pc : Int) + off = (tgt : Int)) : pz_S κ pc (pz_ifge  tgt (pc + 3)) := by
  intro φ Q k u L S M h hk E p l e R s m args below meth c H locs ls P C h1 h2 hW hS hl hr
  have hx := C.1
  have hb := C.2.1
  unfold pz_ifge at h
  split at h
  · next x S' => exact lv_if_ge (x := x) hx hb hd ht (fun q => hk _ _ _ _ _ (h.1 q) E p l e R s m args below meth c H locs ls P C h1 h2 hW hS hl hr) (fun q => hk _ _ _ _ _ (h.2 q) E p l e R s m args below meth c H locs ls P C h1 h2 hW hS hl hr)
  · exact h.elim
def pz_ifgt (t n : Nat) : pz_I := fun Q k u L S M => match S with
  | .int x :: S => (0 < x → k t u L S M) ∧ (¬ 0 < x → k n u L S M)
  | _ => False
theorem pz_s_if_gt {κ : pz_K} {pc tgt : Nat} {off : Int}  (hd : decode (pz_cc κ) pc = .ok (.ifCond .gt off, 3)) (ht : (pc : Int) + off = (tgt : Int)) : pz_S κ pc (pz_ifgt  tgt (pc + 3)) := by
  intro φ Q k u L S M h hk E p l e R s m args below meth c H locs ls P C h1 h2 hW hS hl hr
  have hx := C.1
  have hb := C.2.1
  unfold pz_ifgt at h
  split at h
  · next x S' => exact lv_if_gt (x := x) hx hb hd ht (fun q => hk _ _ _ _ _ (h.1 q) E p l e R s m args below meth c H locs ls P C h1 h2 hW hS hl hr) (fun q => hk _ _ _ _ _ (h.2 q) E p l e R s m args below meth c H locs ls P C h1 h2 hW hS hl hr)
  · exact h.elim
def pz_ifle (t n : Nat) : pz_I := fun Q k u L S M => match S with
  | .int x :: S => (x ≤ 0 → k t u L S M) ∧ (¬ x ≤ 0 → k n u L S M)
  | _ => False
theorem pz_s_if_le {κ : pz_K} {pc tgt : Nat} {off : Int}  (hd : decode (pz_cc κ) pc = .ok (.ifCond .le off, 3)) (ht : (pc : Int) + off = (tgt : Int)) : pz_S κ pc (pz_ifle  tgt (pc + 3)) := by
  intro φ Q k u L S M h hk E p l e R s m args below meth c H locs ls P C h1 h2 hW hS hl hr
  have hx := C.1
  have hb := C.2.1
  unfold pz_ifle at h
  split at h
  · next x S' => exact lv_if_le (x := x) hx hb hd ht (fun q => hk _ _ _ _ _ (h.1 q) E p l e R s m args below meth c H locs ls P C h1 h2 hW hS hl hr) (fun q => hk _ _ _ _ _ (h.2 q) E p l e R s m args below meth c H locs ls P C h1 h2 hW hS hl hr)
  · exact h.elim
def pz_iceq (t n : Nat) : pz_I := fun Q k u L S M => match S with
  | .int y :: .int x :: S => (x = y → k t u L S M) ∧ (¬ x = y → k n u L S M)
  | _ => False
theorem pz_s_icmp_eq {κ : pz_K} {pc tgt : Nat} {off : Int}  (hd : decode (pz_cc κ) pc = .ok (.if_icmp .eq off, 3)) (ht : (pc : Int) + off = (tgt : Int)) : pz_S κ pc (pz_iceq  tgt (pc + 3)) := by
  intro φ Q k u L S M h hk E p l e R s m args below meth c H locs ls P C h1 h2 hW hS hl hr
  have hx := C.1
  have hb := C.2.1
  unfold pz_iceq at h
  split at h
  · next y x S' => exact lv_icmp_eq (x := x) (y := y) hx hb hd ht (fun q => hk _ _ _ _ _ (h.1 q) E p l e R s m args below meth c H locs ls P C h1 h2 hW hS hl hr) (fun q => hk _ _ _ _ _ (h.2 q) E p l e R s m args below meth c H locs ls P C h1 h2 hW hS hl hr)
  · exact h.elim
def pz_icne (t n : Nat) : pz_I := fun Q k u L S M => match S with
  | .int y :: .int x :: S => (¬ x = y → k t u L S M) ∧ (x = y → k n u L S M)
  | _ => False
theorem pz_s_icmp_ne {κ : pz_K} {pc tgt : Nat} {off : Int}  (hd : decode (pz_cc κ) pc = .ok (.if_icmp .ne off, 3)) (ht : (pc : Int) + off = (tgt : Int)) : pz_S κ pc (pz_icne  tgt (pc + 3)) := by
  intro φ Q k u L S M h hk E p l e R s m args below meth c H locs ls P C h1 h2 hW hS hl hr
  have hx := C.1
  have hb := C.2.1
  unfold pz_icne at h
  split at h
  · next y x S' => exact lv_icmp_ne (x := x) (y := y) hx hb hd ht (fun q => hk _ _ _ _ _ (h.1 q) E p l e R s m args below meth c H locs ls P C h1 h2 hW hS hl hr) (fun q => hk _ _ _ _ _ (h.2 q) E p l e R s m args below meth c H locs ls P C h1 h2 hW hS hl hr)
  · exact h.elim
def pz_iclt (t n : Nat) : pz_I := fun Q k u L S M => match S with
  | .int y :: .int x :: S => (x < y → k t u L S M) ∧ (¬ x < y → k n u L S M)
  | _ => False
theorem pz_s_icmp_lt {κ : pz_K} {pc tgt : Nat} {off : Int}  (hd : decode (pz_cc κ) pc = .ok (.if_icmp .lt off, 3)) (ht : (pc : Int) + off = (tgt : Int)) : pz_S κ pc (pz_iclt  tgt (pc + 3)) := by
  intro φ Q k u L S M h hk E p l e R s m args below meth c H locs ls P C h1 h2 hW hS hl hr
  have hx := C.1
  have hb := C.2.1
  unfold pz_iclt at h
  split at h
  · next y x S' => exact lv_icmp_lt (x := x) (y := y) hx hb hd ht (fun q => hk _ _ _ _ _ (h.1 q) E p l e R s m args below meth c H locs ls P C h1 h2 hW hS hl hr) (fun q => hk _ _ _ _ _ (h.2 q) E p l e R s m args below meth c H locs ls P C h1 h2 hW hS hl hr)
  · exact h.elim
def pz_icge (t n : Nat) : pz_I := fun Q k u L S M => match S with
  | .int y :: .int x :: S => (y ≤ x → k t u L S M) ∧ (¬ y ≤ x → k n u L S M)
  | _ => False
theorem pz_s_icmp_ge {κ : pz_K} {pc tgt : Nat} {off : Int}  (hd : decode (pz_cc κ) pc = .ok (.if_icmp .ge off, 3)) (ht : (pc : Int) + off = (tgt : Int)) : pz_S κ pc (pz_icge  tgt (pc + 3)) := by
  intro φ Q k u L S M h hk E p l e R s m args below meth c H locs ls P C h1 h2 hW hS hl hr
  have hx := C.1
  have hb := C.2.1
  unfold pz_icge at h
  split at h
  · next y x S' => exact lv_icmp_ge (x := x) (y := y) hx hb hd ht (fun q => hk _ _ _ _ _ (h.1 q) E p l e R s m args below meth c H locs ls P C h1 h2 hW hS hl hr) (fun q => hk _ _ _ _ _ (h.2 q) E p l e R s m args below meth c H locs ls P C h1 h2 hW hS hl hr)
  · exact h.elim
def pz_icgt (t n : Nat) : pz_I := fun Q k u L S M => match S with
  | .int y :: .int x :: S => (y < x → k t u L S M) ∧ (¬ y < x → k n u L S M)
  | _ => False
theorem pz_s_icmp_gt {κ : pz_K} {pc tgt : Nat} {off : Int}  (hd : decode (pz_cc κ) pc = .ok (.if_icmp .gt off, 3)) (ht : (pc : Int) + off = (tgt : Int)) : pz_S κ pc (pz_icgt  tgt (pc + 3)) := by
  intro φ Q k u L S M h hk E p l e R s m args below meth c H locs ls P C h1 h2 hW hS hl hr
  have hx := C.1
  have hb := C.2.1
  unfold pz_icgt at h
  split at h
  · next y x S' => exact lv_icmp_gt (x := x) (y := y) hx hb hd ht (fun q => hk _ _ _ _ _ (h.1 q) E p l e R s m args below meth c H locs ls P C h1 h2 hW hS hl hr) (fun q => hk _ _ _ _ _ (h.2 q) E p l e R s m args below meth c H locs ls P C h1 h2 hW hS hl hr)
  · exact h.elim
def pz_icle (t n : Nat) : pz_I := fun Q k u L S M => match S with
  | .int y :: .int x :: S => (x ≤ y → k t u L S M) ∧ (¬ x ≤ y → k n u L S M)
  | _ => False
theorem pz_s_icmp_le {κ : pz_K} {pc tgt : Nat} {off : Int}  (hd : decode (pz_cc κ) pc = .ok (.if_icmp .le off, 3)) (ht : (pc : Int) + off = (tgt : Int)) : pz_S κ pc (pz_icle  tgt (pc + 3)) := by
  intro φ Q k u L S M h hk E p l e R s m args below meth c H locs ls P C h1 h2 hW hS hl hr
  have hx := C.1
  have hb := C.2.1
  unfold pz_icle at h
  split at h
  · next y x S' => exact lv_icmp_le (x := x) (y := y) hx hb hd ht (fun q => hk _ _ _ _ _ (h.1 q) E p l e R s m args below meth c H locs ls P C h1 h2 hW hS hl hr) (fun q => hk _ _ _ _ _ (h.2 q) E p l e R s m args below meth c H locs ls P C h1 h2 hW hS hl hr)
  · exact h.elim
def pz_ifnull (t n : Nat) : pz_I := fun Q k u L S M => match S with
  | .ref _ :: S => k n u L S M
  | .null :: S => k t u L S M
  | _ => False
theorem pz_s_ifnull {κ : pz_K} {pc tgt : Nat} {off : Int}  (hd : decode (pz_cc κ) pc = .ok (.ifnull off, 3)) (ht : (pc : Int) + off = (tgt : Int)) : pz_S κ pc (pz_ifnull  tgt (pc + 3)) := by
  intro φ Q k u L S M h hk E p l e R s m args below meth c H locs ls P C h1 h2 hW hS hl hr
  have hx := C.1
  have hb := C.2.1
  unfold pz_ifnull at h
  split at h
  · next x S' => exact lv_ifnull (x := pz_x E x) hx hb hd (hk _ _ _ _ _ h E p l e R s m args below meth c H locs ls P C h1 h2 hW hS hl hr)
  · next S' => exact lv_ifnullN hx hb hd ht (hk _ _ _ _ _ h E p l e R s m args below meth c H locs ls P C h1 h2 hW hS hl hr)
  · exact h.elim
def pz_ifnn (t n : Nat) : pz_I := fun Q k u L S M => match S with
  | .ref _ :: S => k t u L S M
  | .null :: S => k n u L S M
  | _ => False
theorem pz_s_ifnn {κ : pz_K} {pc tgt : Nat} {off : Int}  (hd : decode (pz_cc κ) pc = .ok (.ifnonnull off, 3)) (ht : (pc : Int) + off = (tgt : Int)) : pz_S κ pc (pz_ifnn  tgt (pc + 3)) := by
  intro φ Q k u L S M h hk E p l e R s m args below meth c H locs ls P C h1 h2 hW hS hl hr
  have hx := C.1
  have hb := C.2.1
  unfold pz_ifnn at h
  split at h
  · next x S' => exact lv_ifnonnull (x := pz_x E x) hx hb hd ht (hk _ _ _ _ _ h E p l e R s m args below meth c H locs ls P C h1 h2 hW hS hl hr)
  · next S' => exact lv_ifnonnullN hx hb hd (hk _ _ _ _ _ h E p l e R s m args below meth c H locs ls P C h1 h2 hW hS hl hr)
  · exact h.elim
theorem pz_s_iinc {κ : pz_K} {pc : Nat} {i : Nat} {a : Int} {z : Int32} (hd : decode (pz_cc κ) pc = .ok (.iinc i a, 3)) (hz : Int32.ofInt a = z) : pz_S κ pc (pz_inc i z (pc + 3)) := by
  intro φ Q k u L S M h hk E p l e R s m args below meth c H locs ls P C h1 h2 hW hS hl hr
  have hx := C.1
  have hb := C.2.1
  unfold pz_inc at h
  split at h
  · next x hq =>
    split at h
    · next L' hq' =>
      obtain ⟨hi', lv, hlv, hup⟩ := pz_sto_ok (v := .int (x + z)) hl rfl hq'
      intro T hT X
      obtain ⟨ls', e', hls'⟩ := lv_store1 (v := .int (x + z)) hlv hi' rfl
      have hg := hl.int hq
      obtain ⟨t, a, b⟩ := hk _ _ _ _ _ h E p l e R s m args below meth c H locs ls' P C h1 h2 hW hS (hup ls' hls') hr T hT X
      refine ⟨t, ?_, b⟩
      subst hz
      have hg : ls[i]? = some (.val (.int x)) := hg
      jvm_step X.here [X.here.top, ↓top_set X.here.top, hx, hb, hd, hg, e']
      exact a
    · exact h.elim
  · exact h.elim
def pz_ret  : pz_I := fun Q k u L S M => match S with
  | [.int x] => Q (some (.int x)) M
  | _ => False
theorem pz_s_ireturn {κ : pz_K} {pc : Nat} (hd : decode (pz_cc κ) pc = .ok (.ireturn, 1)) (ht : pz_rt κ = some .int) : pz_S κ pc pz_ret := by
  intro φ Q k u L S M h hk E p l e R s m args below meth c H locs ls P C h1 h2 hW hS hl hr
  have hx := C.1
  have hb := C.2.1
  unfold pz_ret at h
  split at h
  · next x => exact W.widen h1 h2 (hr pc H locs ls M (some (.int x)) .ireturn hd ⟨.int, ht, rfl⟩ h hW hS)
  · exact h.elim
def pz_zret  : pz_I := fun Q k u L S M => match S with
  | [.int x] => (x = 0 ∨ x = 1) ∧ Q (some (.int x)) M
  | _ => False
theorem pz_s_zreturn {κ : pz_K} {pc : Nat} (hd : decode (pz_cc κ) pc = .ok (.ireturn, 1)) (ht : pz_rt κ = some .boolean) : pz_S κ pc pz_zret := by
  intro φ Q k u L S M h hk E p l e R s m args below meth c H locs ls P C h1 h2 hW hS hl hr
  have hx := C.1
  have hb := C.2.1
  unfold pz_zret at h
  split at h
  · next x => exact W.widen h1 h2 (hr pc H locs ls M (some (.int x)) .ireturn hd ⟨.boolean, ht, by rcases h.1 with rfl | rfl <;> decide⟩ h.2 hW hS)
  · exact h.elim
def pz_nret (ty : FieldType) : pz_I := fun Q k u L S M => match S with
  | [.int x] => narrow ty (.int x) = .int x ∧ Q (some (.int x)) M
  | _ => False
theorem pz_s_nreturn {κ : pz_K} {pc : Nat} {ty : FieldType} (hd : decode (pz_cc κ) pc = .ok (.ireturn, 1)) (ht : pz_rt κ = some ty) : pz_S κ pc (pz_nret ty) := by
  intro φ Q k u L S M h hk E p l e R s m args below meth c H locs ls P C h1 h2 hW hS hl hr
  have hx := C.1
  have hb := C.2.1
  unfold pz_nret at h
  split at h
  · next x => exact W.widen h1 h2 (hr pc H locs ls M (some (.int x)) .ireturn hd ⟨ty, ht, h.1⟩ h.2 hW hS)
  · exact h.elim
def pz_aret  : pz_I := fun Q k u L S M => match S with
  | [.ref x] => Q (some (.ref x)) M
  | [.null] => Q (some .null) M
  | _ => False
theorem pz_s_areturn {κ : pz_K} {pc : Nat} (hd : decode (pz_cc κ) pc = .ok (.areturn, 1)) (ht : (∃ n, pz_rt κ = some (.object n)) ∨ ∃ t, pz_rt κ = some (.array t)) : pz_S κ pc pz_aret := by
  intro φ Q k u L S M h hk E p l e R s m args below meth c H locs ls P C h1 h2 hW hS hl hr
  have hx := C.1
  have hb := C.2.1
  unfold pz_aret at h
  split at h
  · next x => exact W.widen h1 h2 (hr pc H locs ls M (some (.ref x)) .areturn hd ht h hW hS)
  · exact W.widen h1 h2 (hr pc H locs ls M (some .null) .areturn hd ht h hW hS)
  · exact h.elim
def pz_vret  : pz_I := fun Q k u L S M => match S with
  | [] => Q none M
  | _ => False
theorem pz_s_vreturn {κ : pz_K} {pc : Nat} (hd : decode (pz_cc κ) pc = .ok (.return_, 1)) (ht : pz_rt κ = none) : pz_S κ pc pz_vret := by
  intro φ Q k u L S M h hk E p l e R s m args below meth c H locs ls P C h1 h2 hW hS hl hr
  have hx := C.1
  have hb := C.2.1
  unfold pz_vret at h
  split at h
  · exact W.widen h1 h2 (hr pc H locs ls M none .return_ hd ht h hW hS)
  · exact h.elim
end
section
theorem pz_W.at {E : pz_V} {M : pz_M} {H : Heap} (h : pz_W E M H) {r : Nat} {c : pz_E} (hr : pz_nth M r = some c) : va_at E.1 pz_cls (E.2.2.1 + r, pz_e E c) H ∧ pz_x E r = E.2.2.1 + r := by
  rw [pz_nth_eq] at hr
  refine ⟨h.2.2 r c hr, ?_⟩
  have h1 := (List.getElem?_eq_some_iff.mp hr).1
  have h2 := h.2.1
  unfold pz_x
  rw [if_pos (by omega)]
theorem pz_W.one {E : pz_V} {M : pz_M} {H : Heap} (h : pz_W E M H) {r : Nat} {c : pz_E} (hr : pz_nth M r = some c) : va_P E.1 pz_cls [(E.2.2.1 + r, pz_e E c)] H := by
  intro i q hq
  cases i with
  | zero => cases hq; exact (h.at hr).1
  | succ i => cases hq
theorem pz_W.set {E : pz_V} {M : pz_M} {H H' : Heap} (h : pz_W E M H) {r : Nat} {c c' : pz_E} (hr : pz_nth M r = some c) (hz : H'.size = H.size) (ho : ∀ q, q ≠ E.2.2.1 + r → H'[q]? = H[q]?) (hc : va_at E.1 pz_cls (E.2.2.1 + r, pz_e E c') H') : pz_W E (pz_set M r c') H' := by
  rw [pz_nth_eq] at hr
  have hlt := (List.getElem?_eq_some_iff.mp hr).1
  rw [pz_set_eq]
  refine ⟨by rw [hz, List.length_set]; exact h.1, by rw [List.length_set]; exact h.2.1, fun i x hi => ?_⟩
  by_cases hir : i = r
  · subst hir
    rw [List.getElem?_set_self hlt] at hi
    cases hi
    exact hc
  · rw [List.getElem?_set_ne (fun q => hir q.symm)] at hi
    exact (h.2.2 i x hi).kept (ho _ (by show E.2.2.1 + i ≠ _; omega))
theorem pz_W.push {E : pz_V} {M : pz_M} {H H' : Heap} (h : pz_W E M H) {c : pz_E} (hM : M.length < 1000000) (hz : H'.size = H.size + 1) (ho : ∀ q, q < H.size → H'[q]? = H[q]?) (hc : va_at E.1 pz_cls (H.size, pz_e E c) H') : pz_W E (M ++ [c]) H' := by
  refine ⟨by rw [hz, h.1, List.length_append]; rfl, by rw [List.length_append]; show M.length + 1 ≤ _; omega, fun i x hi => ?_⟩
  by_cases hlt : i < M.length
  · rw [List.getElem?_append_left hlt] at hi
    exact (h.2.2 i x hi).kept (ho _ (by rw [h.1]; show E.2.2.1 + i < _; omega))
  · rw [List.getElem?_append_right (by omega)] at hi
    have h0 : i - M.length < 1 := (List.getElem?_eq_some_iff.mp hi).1
    rw [show i - M.length = 0 by omega] at hi
    cases hi
    rw [show i = M.length by omega, ← h.1]
    exact hc
theorem pz_push {E : pz_V} {M : pz_M} {H H' : Heap} {H0 : Heap} {locs : List Loc} (hS : va_S (pz_A E) H0 H locs) (hz : H'.size = H.size + 1) (ho : ∀ q, q < H.size → H'[q]? = H[q]?) : va_S (pz_A E) H0 H' locs :=
  ⟨Nat.le_trans hS.1 (by omega), fun x h1 h2 => (ho x (Nat.lt_of_lt_of_le h1 hS.1)).trans (hS.2.1 x h1 h2), hS.2.2⟩
/-- a class's words are all there -/
def pz_cok (q : vw_C) : Prop := (∀ w ∈ u_ws q.1 q.2.1 q.2.2, w ∈ pz_TB) ∧ ∃ ty : Nat → FieldType, (∀ k, k < q.2.2 → parseFieldDescriptor (q.2.1 k).2.2.1 = some (ty k)) ∧ ∀ a, a < q.2.2 → ∀ b, b < q.2.2 → a ≠ b → (q.2.1 a).2.1 ≠ (q.2.1 b).2.1
theorem pz_cok0 : pz_cok (RX1, TX1, 2) := ⟨by
  have h : (u_ws RX1 TX1 2).all (fun w => decide (w ∈ lw_tbl) && goodWord w) = true := by decide +kernel
  exact fun w hw => pz_in (List.all_eq_true.mp h w hw), tyX1, tyX1_ok, nmX1⟩
theorem pz_cok1 : pz_cok (RX3, TX3, 8) := ⟨by
  have h : (u_ws RX3 TX3 8).all (fun w => decide (w ∈ lw_tbl) && goodWord w) = true := by decide +kernel
  exact fun w hw => pz_in (List.all_eq_true.mp h w hw), tyX3, tyX3_ok, nmX3⟩
theorem pz_cok2 : pz_cok (RX4, TX4, 3) := ⟨by
  have h : (u_ws RX4 TX4 3).all (fun w => decide (w ∈ lw_tbl) && goodWord w) = true := by decide +kernel
  exact fun w hw => pz_in (List.all_eq_true.mp h w hw), tyX4, tyX4_ok, nmX4⟩
theorem pz_cok3 : pz_cok (RX5, TX5, 5) := ⟨by
  have h : (u_ws RX5 TX5 5).all (fun w => decide (w ∈ lw_tbl) && goodWord w) = true := by decide +kernel
  exact fun w hw => pz_in (List.all_eq_true.mp h w hw), tyX5, tyX5_ok, nmX5⟩
theorem pz_cok4 : pz_cok (RX6, TX6, 4) := ⟨by
  have h : (u_ws RX6 TX6 4).all (fun w => decide (w ∈ lw_tbl) && goodWord w) = true := by decide +kernel
  exact fun w hw => pz_in (List.all_eq_true.mp h w hw), tyX6, tyX6_ok, nmX6⟩
theorem pz_cok5 : pz_cok (RX7, TX7, 14) := ⟨by
  have h : (u_ws RX7 TX7 14).all (fun w => decide (w ∈ lw_tbl) && goodWord w) = true := by decide +kernel
  exact fun w hw => pz_in (List.all_eq_true.mp h w hw), tyX7, tyX7_ok, nmX7⟩
theorem pz_cok6 : pz_cok (RX8, TX8, 2) := ⟨by
  have h : (u_ws RX8 TX8 2).all (fun w => decide (w ∈ lw_tbl) && goodWord w) = true := by decide +kernel
  exact fun w hw => pz_in (List.all_eq_true.mp h w hw), tyX8, tyX8_ok, nmX8⟩
theorem pz_cok7 : pz_cok (RX9, TX9, 12) := ⟨by
  have h : (u_ws RX9 TX9 12).all (fun w => decide (w ∈ lw_tbl) && goodWord w) = true := by decide +kernel
  exact fun w hw => pz_in (List.all_eq_true.mp h w hw), tyX9, tyX9_ok, nmX9⟩
theorem pz_cok8 : pz_cok (RX10, TX10, 33) := ⟨by
  have h : (u_ws RX10 TX10 33).all (fun w => decide (w ∈ lw_tbl) && goodWord w) = true := by decide +kernel
  exact fun w hw => pz_in (List.all_eq_true.mp h w hw), tyX10, tyX10_ok, nmX10⟩
theorem pz_cok_all : ∀ (ci : Nat) (q : vw_C), pz_cls[ci]? = some q → pz_cok q := by
  intro ci q h
  match ci, h with
  | 0, h => cases h; exact pz_cok0
  | 1, h => cases h; exact pz_cok1
  | 2, h => cases h; exact pz_cok2
  | 3, h => cases h; exact pz_cok3
  | 4, h => cases h; exact pz_cok4
  | 5, h => cases h; exact pz_cok5
  | 6, h => cases h; exact pz_cok6
  | 7, h => cases h; exact pz_cok7
  | 8, h => cases h; exact pz_cok8
  | n + 9, h => simp [pz_cls] at h
def pz_iald (n : Nat) : pz_I := fun Q k u L S M => match S with
  | .int i :: .ref r :: S => match pz_nth M r with
    | some (.inl (0, N, f)) => vp_in i N ∧ k n u L (.int (f i.toNatClampNeg) :: S) M
    | _ => False
  | _ => False
theorem pz_s_iald {κ : pz_K} {pc : Nat} (hd : decode (pz_cc κ) pc = .ok (.iaload, 1)) : pz_S κ pc (pz_iald (pc + 1)) := by
  intro φ Q k u L S M h hk E p l e R s m args below meth c H locs ls P C h1 h2 hW hS hl hr
  have hx := C.1
  have hb := C.2.1
  have hown := C.2.2.2.1
  have hts := C.2.2.2.2.1
  have hK := C.2.2.2.2.2.2.2.2.2.2.1
  have hG := C.2.2.2.2.2.2.2.2.2.2.2.1
  have hB := C.2.2.2.2.2.2.2.2.2.2.2.2.1
  unfold pz_iald at h
  split at h
  · next i r S' =>
    split at h
    · next N f hq =>
      have hG := (hk _ _ _ _ _ h.2 E p l e R s m args below meth c H locs ls P C h1 h2 hW hS hl hr)
      have ha := hW.at hq
      have hp := hW.one hq
      have eS : List.map (pz_v E) (.int i :: .ref r :: S') = .int i :: .ref (E.2.2.1 + r) :: List.map (pz_v E) S' := by rw [← ha.2]; rfl
      rw [eS]
      exact va_iald (D := E.1) (cl := pz_cls) (tys := pz_tys E) (f := f) hx hb hK hp 0 0 rfl rfl h.1 hd hG
    · exact h.elim
  · exact h.elim
def pz_bald (n : Nat) : pz_I := fun Q k u L S M => match S with
  | .int i :: .ref r :: S => match pz_nth M r with
    | some (.inl (1, N, f)) => vp_in i N ∧ k n u L (.int (f i.toNatClampNeg) :: S) M
    | _ => False
  | _ => False
theorem pz_s_bald {κ : pz_K} {pc : Nat} (hd : decode (pz_cc κ) pc = .ok (.baload, 1)) : pz_S κ pc (pz_bald (pc + 1)) := by
  intro φ Q k u L S M h hk E p l e R s m args below meth c H locs ls P C h1 h2 hW hS hl hr
  have hx := C.1
  have hb := C.2.1
  have hown := C.2.2.2.1
  have hts := C.2.2.2.2.1
  have hK := C.2.2.2.2.2.2.2.2.2.2.1
  have hG := C.2.2.2.2.2.2.2.2.2.2.2.1
  have hB := C.2.2.2.2.2.2.2.2.2.2.2.2.1
  unfold pz_bald at h
  split at h
  · next i r S' =>
    split at h
    · next N f hq =>
      have hG := (hk _ _ _ _ _ h.2 E p l e R s m args below meth c H locs ls P C h1 h2 hW hS hl hr)
      have ha := hW.at hq
      have hp := hW.one hq
      have eS : List.map (pz_v E) (.int i :: .ref r :: S') = .int i :: .ref (E.2.2.1 + r) :: List.map (pz_v E) S' := by rw [← ha.2]; rfl
      rw [eS]
      exact va_bald (D := E.1) (cl := pz_cls) (tys := pz_tys E) (f := f) hx hb hK hp 0 1 rfl rfl h.1 hd hG
    · exact h.elim
  · exact h.elim
def pz_aald (n : Nat) : pz_I := fun Q k u L S M => match S with
  | .int i :: .ref r :: S => match pz_nth M r with
    | some (.inr (.inl (t, N, f))) => vp_in i N ∧ k n u L (va_rf (f i.toNatClampNeg) :: S) M
    | _ => False
  | _ => False
theorem pz_rf (E : pz_V) (o : Option Nat) : pz_v E (va_rf o) = va_rf (o.map (pz_x E)) := by cases o <;> rfl
def pz_aty (t : Nat) : Option String := match t with
  | 2 => some RX6
  | 3 => some RX4
  | 4 => some RX5
  | _ => none
theorem pz_aty_ok {E : pz_V} {t : Nat} {C : String} (h : pz_aty t = some C) : (pz_tys E)[t]? = some (E.2.1 t, .object C) := by
  match t, h with
  | 0, h => cases h
  | 1, h => cases h
  | 2, h => cases h; rfl
  | 3, h => cases h; rfl
  | 4, h => cases h; rfl
  | n + 5, h => cases h
def pz_aald' (t0 n : Nat) : pz_I := fun Q k u L S M => match S with
  | .int i :: .ref r :: S => match pz_nth M r with
    | some (.inr (.inl (t, N, f))) => match t == t0 with
      | true => vp_in i N ∧ k n u L (va_rf (f i.toNatClampNeg) :: S) M
      | false => False
    | _ => False
  | _ => False
theorem pz_s_aald {κ : pz_K} {pc t0 : Nat} {C0 : String} (hd : decode (pz_cc κ) pc = .ok (.aaload, 1)) (ht0 : pz_aty t0 = some C0) : pz_S κ pc (pz_aald' t0 (pc + 1)) := by
  intro φ Q k u L S M h hk E p l e R s m args below meth c H locs ls P C h1 h2 hW hS hl hr
  have hx := C.1
  have hb := C.2.1
  have hown := C.2.2.2.1
  have hts := C.2.2.2.2.1
  have hK := C.2.2.2.2.2.2.2.2.2.2.1
  have hG := C.2.2.2.2.2.2.2.2.2.2.2.1
  have hB := C.2.2.2.2.2.2.2.2.2.2.2.2.1
  unfold pz_aald' at h
  split at h
  · next i r S' =>
    split at h
    · next t N f hq =>
      split at h
      · next ht =>
        have ht : t = t0 := by simpa using ht
        subst ht
        have hG := (hk _ _ _ _ _ h.2 E p l e R s m args below meth c H locs ls P C h1 h2 hW hS hl hr)
        have ha := hW.at hq
        have hp := hW.one hq
        have eS : List.map (pz_v E) (.int i :: .ref r :: S') = .int i :: .ref (E.2.2.1 + r) :: List.map (pz_v E) S' := by rw [← ha.2]; rfl
        rw [eS]
        rw [List.map_cons, pz_rf] at hG
        exact va_aldq (D := E.1) (cl := pz_cls) (tys := pz_tys E) (f := fun j => (f j).map (pz_x E)) hx hb hK hp 0 t rfl (pz_aty_ok ht0) h.1 hd hG
      · exact h.elim
    · exact h.elim
  · exact h.elim
def pz_iast (n : Nat) : pz_I := fun Q k u L S M => match S with
  | .int x :: .int i :: .ref r :: S => match pz_nth M r with
    | some (.inl (0, N, f)) => vp_in i N ∧ k n u L S (pz_set M r (.inl (0, N, upd f i.toNatClampNeg (x))))
    | _ => False
  | _ => False
theorem pz_s_iast {κ : pz_K} {pc : Nat} (hd : decode (pz_cc κ) pc = .ok (.iastore, 1)) : pz_S κ pc (pz_iast (pc + 1)) := by
  intro φ Q k u L S M h hk E p l e R s m args below meth c H locs ls P C h1 h2 hW hS hl hr
  have hx := C.1
  have hb := C.2.1
  have hown := C.2.2.2.1
  have hts := C.2.2.2.2.1
  have hK := C.2.2.2.2.2.2.2.2.2.2.1
  have hG := C.2.2.2.2.2.2.2.2.2.2.2.1
  have hB := C.2.2.2.2.2.2.2.2.2.2.2.2.1
  unfold pz_iast at h
  split at h
  · next x i r S' =>
    split at h
    · next N f hq =>
      have ha := hW.at hq
      have hc : H[E.2.2.1 + r]? = some (arrV (E.2.1 0) N (fun j => .int (f j))) := ha.1
      have eS : List.map (pz_v E) (.int x :: .int i :: .ref r :: S') = .int x :: .int i :: .ref (E.2.2.1 + r) :: List.map (pz_v E) S' := by rw [← ha.2]; rfl
      rw [eS]
      refine W.iast hx hb hc ((hK.2 0 _ rfl).1 N (fun j => .int (f j))) (fun q => by cases q) (by rw [arrV_size]; exact h.1) rfl rfl hd fun H1 e1 z1 o1 => ?_
      refine hk _ _ _ _ _ h.2 E p l e R s m args below meth c H1 _ ls P C h1 h2 (hW.set hq z1 o1 ?_) (hS.put z1 o1 (Nat.le_add_right _ _)) hl hr
      show H1[E.2.2.1 + r]? = some (arrV (E.2.1 0) N (fun j => .int (upd f i.toNatClampNeg (x) j)))
      rw [e1, arrV_store]
      congr 2
      funext q
      by_cases hq : q = i.toNatClampNeg
      · subst hq; simp [updV, upd, narrow]
      · simp [updV, upd, hq]
    · exact h.elim
  · exact h.elim
def pz_bast (n : Nat) : pz_I := fun Q k u L S M => match S with
  | .int x :: .int i :: .ref r :: S => match pz_nth M r with
    | some (.inl (1, N, f)) => vp_in i N ∧ k n u L S (pz_set M r (.inl (1, N, upd f i.toNatClampNeg (x.toInt8.toInt32))))
    | _ => False
  | _ => False
theorem pz_s_bast {κ : pz_K} {pc : Nat} (hd : decode (pz_cc κ) pc = .ok (.bastore, 1)) : pz_S κ pc (pz_bast (pc + 1)) := by
  intro φ Q k u L S M h hk E p l e R s m args below meth c H locs ls P C h1 h2 hW hS hl hr
  have hx := C.1
  have hb := C.2.1
  have hown := C.2.2.2.1
  have hts := C.2.2.2.2.1
  have hK := C.2.2.2.2.2.2.2.2.2.2.1
  have hG := C.2.2.2.2.2.2.2.2.2.2.2.1
  have hB := C.2.2.2.2.2.2.2.2.2.2.2.2.1
  unfold pz_bast at h
  split at h
  · next x i r S' =>
    split at h
    · next N f hq =>
      have ha := hW.at hq
      have hc : H[E.2.2.1 + r]? = some (arrV (E.2.1 1) N (fun j => .int (f j))) := ha.1
      have eS : List.map (pz_v E) (.int x :: .int i :: .ref r :: S') = .int x :: .int i :: .ref (E.2.2.1 + r) :: List.map (pz_v E) S' := by rw [← ha.2]; rfl
      rw [eS]
      refine W.bast hx hb hc ((hK.2 1 _ rfl).1 N (fun j => .int (f j))) (fun q => by cases q) (by rw [arrV_size]; exact h.1) rfl rfl hd fun H1 e1 z1 o1 => ?_
      refine hk _ _ _ _ _ h.2 E p l e R s m args below meth c H1 _ ls P C h1 h2 (hW.set hq z1 o1 ?_) (hS.put z1 o1 (Nat.le_add_right _ _)) hl hr
      show H1[E.2.2.1 + r]? = some (arrV (E.2.1 1) N (fun j => .int (upd f i.toNatClampNeg (x.toInt8.toInt32) j)))
      rw [e1, arrV_store]
      congr 2
      funext q
      by_cases hq : q = i.toNatClampNeg
      · subst hq; simp [updV, upd, narrow]
      · simp [updV, upd, hq]
    · exact h.elim
  · exact h.elim
def pz_aast (t0 ci n : Nat) : pz_I := fun Q k u L S M => match S with
  | .ref v :: .int i :: .ref r :: S => match pz_nth M r with
    | some (.inr (.inl (t, N, f))) => match t == t0 with
      | true => match pz_nth M v with
        | some (.inr (.inr (c, fs))) => match c == ci with
          | true => vp_in i N ∧ k n u L S (pz_set M r (.inr (.inl (t, N, va_up f i.toNatClampNeg (some v)))))
          | false => False
        | _ => False
      | false => False
    | _ => False
  | _ => False
theorem pz_s_aast {κ : pz_K} {pc t0 ci : Nat} {q0 : vw_C} (hd : decode (pz_cc κ) pc = .ok (.aastore, 1)) (ht0 : pz_aty t0 = some q0.1) (hc0 : pz_cls[ci]? = some q0) : pz_S κ pc (pz_aast t0 ci (pc + 1)) := by
  intro φ Q k u L S M h hk E p l e R s m args below meth c H locs ls P C h1 h2 hW hS hl hr
  have hx := C.1
  have hb := C.2.1
  have hown := C.2.2.2.1
  have hts := C.2.2.2.2.1
  have hK := C.2.2.2.2.2.2.2.2.2.2.1
  have hG := C.2.2.2.2.2.2.2.2.2.2.2.1
  have hB := C.2.2.2.2.2.2.2.2.2.2.2.2.1
  unfold pz_aast at h
  split at h
  · next v i r S' =>
    split at h
    · next t N f hq =>
      split at h
      · next ht =>
        have ht : t = t0 := by simpa using ht
        subst ht
        split at h
        · next c9 fs hv =>
          split at h
          · next hci =>
            have hci : c9 = ci := by simpa using hci
            subst hci
            have ha := hW.at hq
            have hav := hW.at hv
            have eS : List.map (pz_v E) (.ref v :: .int i :: .ref r :: S') = .ref (E.2.2.1 + v) :: .int i :: .ref (E.2.2.1 + r) :: List.map (pz_v E) S' := by rw [← ha.2, ← hav.2]; rfl
            rw [eS]
            have hin := h.1
            have hlt : i.toNatClampNeg < N := Nat.not_le.mp fun q => hin (Or.inr q)
            have hn0 : ¬ i < 0 := fun q => hin (Or.inl q)
            obtain ⟨r', hr', cellV, g1, g2, g3, -⟩ := hav.1
            have hcls := (hK.1 c9 q0 hc0).2
            obtain ⟨kA, comp, k1, k2, k3, -⟩ := (hK.2 t _ (pz_aty_ok ht0)).2
            have hcomp : comp = E.1.1 c9 := Option.some.inj (k3.symm.trans hcls.1)
            subst hcomp
            obtain ⟨kC, hkC, -⟩ := hcls.2
            have hc : H[E.2.2.1 + r]? = some (arrV (E.2.1 t) N (fun j => va_rf ((f j).map (pz_x E)))) := ha.1
            refine W.aast hx hb hc (fun q h => by cases h) (fun h => by cases h) k1 k2 rfl hkC ⟨hn0, by rw [arrV_size]; exact hlt⟩ g1 (fun q h => by rw [g3] at h; cases h) (by rw [g2]; exact hkC) (by rw [g2]; exact va_assign hcls) rfl rfl hd fun H1 e1 z1 o1 => ?_
            refine hk _ _ _ _ _ h.2 E p l e R s m args below meth c H1 _ ls P C h1 h2 (hW.set hq z1 o1 ?_) (hS.put z1 o1 (Nat.le_add_right _ _)) hl hr
            show H1[E.2.2.1 + r]? = some (arrV (E.2.1 t) N (fun j => va_rf ((va_up f i.toNatClampNeg (some v) j).map (pz_x E))))
            rw [e1, arrV_store]
            congr 2
            funext q
            by_cases hq : q = i.toNatClampNeg
            · subst hq; simp [updV, va_up, va_rf, hav.2]
            · simp [updV, va_up, hq]
          · exact h.elim
        · exact h.elim
      · exact h.elim
    · exact h.elim
  · exact h.elim
def pz_get (ci j n : Nat) : pz_I := fun Q k u L S M => match S with
  | .ref r :: S => match pz_nth M r with
    | some (.inr (.inr (c, fs))) => match c == ci with
      | true => match pz_nth fs j with
        | some v => k n u L (v :: S) M
        | none => False
      | false => False
    | _ => False
  | _ => False
theorem pz_s_get {κ : pz_K} {pc i ci j : Nat} {q0 : vw_C} (hd : decode (pz_cc κ) pc = .ok (.getfield i, 3)) (hc0 : pz_cls[ci]? = some q0) (hj : j < q0.2.2) (hw : Cond.fieldLink (pz_own κ) i (q0.2.1 j).1 (q0.2.1 j).2.1 (q0.2.1 j).2.2.1 ∈ pz_TB) : pz_S κ pc (pz_get ci j (pc + 3)) := by
  intro φ Q k u L S M h hk E p l e R s m args below meth c H locs ls P C h1 h2 hW hS hl hr
  have hx := C.1
  have hb := C.2.1
  have hown := C.2.2.2.1
  have hts := C.2.2.2.2.1
  have hK := C.2.2.2.2.2.2.2.2.2.2.1
  have hG := C.2.2.2.2.2.2.2.2.2.2.2.1
  have hB := C.2.2.2.2.2.2.2.2.2.2.2.2.1
  unfold pz_get at h
  split at h
  · next r S' =>
    split at h
    · next c9 fs hq =>
      split at h
      · next hci =>
        have hci : c9 = ci := by simpa using hci
        subst hci
        split at h
        · next v hv =>
          have ha := hW.at hq
          have hp := hW.one hq
          have eS : List.map (pz_v E) (.ref r :: S') = .ref (E.2.2.1 + r) :: List.map (pz_v E) S' := by rw [← ha.2]; rfl
          rw [eS]
          have hk' := (hk _ _ _ _ _ h E p l e R s m args below meth c H locs ls P C h1 h2 hW hS hl hr)
          exact va_get (D := E.1) (cl := pz_cls) (tys := pz_tys E) (C := q0.1) (T := q0.2.1) (N := q0.2.2) (fs := fs.map (pz_v E)) hx hb hts (pz_cok_all c9 q0 hc0).1 hown hK hp 0 rfl hc0 j hj (hts _ hw) (fun _ h9 => h9) (by rw [List.getElem?_map, ← pz_nth_eq, hv]; rfl) hd hk'
        · exact h.elim
      · exact h.elim
    · exact h.elim
  · exact h.elim
theorem pz_put_at {E : pz_V} {H1 : Heap} {r ci j : Nat} {fs : List Value} {v : Value} {q0 : vw_C} {cell : Cell} (hc0 : pz_cls[ci]? = some q0) (hj : j < q0.2.2) (hjf : j < fs.length) (q2 : cell.cls = E.1.1 ci) (q3 : cell.vm = .none) (q4 : ∀ k, k < q0.2.2 → cell.slots[E.1.2 ci k]? = some (vp_V (fs.map (pz_v E)) k)) (hap : ∀ x y, x < q0.2.2 → y < q0.2.2 → x ≠ y → E.1.2 ci x ≠ E.1.2 ci y) (e1 : H1[E.2.2.1 + r]? = some (cell.setSlot (E.1.2 ci j) (pz_v E v))) : va_at E.1 pz_cls (E.2.2.1 + r, pz_e E (.inr (.inr (ci, pz_set fs j v)))) H1 := by
  refine ⟨q0, hc0, t_OB.to (V := updV (vp_V (fs.map (pz_v E))) j (pz_v E v)) ⟨_, e1, q2, q3, t_set q4 hap hj (pz_v E v)⟩ (fun z _ => ?_)⟩
  rw [vp_updV_set (by rw [List.length_map]; exact hjf)]
  show vp_V _ z = vp_V ((pz_set fs j v).map (pz_v E)) z
  rw [pz_set_eq, List.map_set]
theorem pz_put_core {κ : pz_K} {pc i ci j : Nat} {q0 : vw_C} {ty : FieldType} (hd : decode (pz_cc κ) pc = .ok (.putfield i, 3)) (hc0 : pz_cls[ci]? = some q0) (hj : j < q0.2.2) (hw : Cond.fieldLink (pz_own κ) i (q0.2.1 j).1 (q0.2.1 j).2.1 (q0.2.1 j).2.2.1 ∈ pz_TB) (hfin : (q0.2.1 j).2.2.2 = false) (hdt : parseFieldDescriptor (q0.2.1 j).2.2.1 = some ty) {φ : pz_V → State → Prop} {Q : pz_Q} {k : pz_k} {u : Nat × Nat} {L : pz_L} {S : List Value} {M : pz_M} {v : Value} {r c9 : Nat} {fs : List Value} {v0 : Value} (hq : pz_nth M r = some (.inr (.inr (c9, fs)))) (hci : c9 = ci) (hv : pz_nth fs j = some v0) (hn : ∀ E : pz_V, narrow ty (pz_v E v) = pz_v E v) (hfit : ∀ E : pz_V, fits ty (pz_v E v) = true)
    (h : k (pc + 3) u L S (pz_set M r (.inr (.inr (c9, pz_set fs j v))))) (hk : ∀ (pc' : Nat) (u' : Nat × Nat) (L' : pz_L) (S' : List Value) (M' : pz_M), k pc' u' L' S' M' → pz_T φ κ Q pc' u' L' S' M') : pz_T φ κ Q pc u L (v :: .ref r :: S) M := by
  intro E p l e R s m args below meth c H locs ls P C h1 h2 hW hS hl hr
  subst hci
  have hx := C.1
  have hb := C.2.1
  have hown := C.2.2.2.1
  have hts := C.2.2.2.2.1
  have hK := C.2.2.2.2.2.2.2.2.2.2.1
  have ha := hW.at hq
  have hjf : j < fs.length := by rw [pz_nth_eq] at hv; exact (List.getElem?_eq_some_iff.mp hv).1
  obtain ⟨hin, ty0, hty, hnm⟩ := pz_cok_all c9 q0 hc0
  have hap := va_apart (own := pz_own κ) hts hin ty0 hty hnm hK hc0
  obtain ⟨r9, z1, cell, q1, q2, q3, q4⟩ := ha.1
  have hr9 : r9 = q0 := Option.some.inj (z1.symm.trans hc0)
  subst hr9
  obtain ⟨hSl, hfc, kC, hkC, hkind⟩ := hK.1 c9 _ hc0
  obtain ⟨cf, kf, fi, f, hi, hsl⟩ := hSl j hj
  have hlay := hts _ (hin _ (u_in_lay hj))
  unfold u_lay at hlay
  rw [if_neg (by rw [hfin]; decide)] at hlay
  have hst := (u_facts hfc hkC (u_lays hts hin hj) hi).1
  have eS : List.map (pz_v E) (v :: .ref r :: S) = pz_v E v :: .ref (E.2.2.1 + r) :: List.map (pz_v E) S := by rw [← ha.2]; rfl
  rw [eS]
  have h6 := u_store hfc hkC hkind hlay hi hdt (hn E) (hfit E)
  refine W.putK hx hb (f := f) ⟨hown, hts _ hw, ⟨_, _, _, hi⟩, hst⟩ (by rw [q2]; exact h6) q1 q3 (by rw [hsl]; exact k2_hasslot (q4 j hj)) rfl rfl hd fun H' e1 e2 e3 => ?_
  rw [hsl] at e1
  exact hk _ _ _ _ _ h E p l e R s m args below meth c H' _ ls P C h1 h2 (hW.set hq e2 e3 (pz_put_at hc0 hj hjf q2 q3 q4 hap e1)) (hS.put e2 e3 (Nat.le_add_right _ _)) hl hr
theorem pz_putF_core {κ : pz_K} {pc i ci j : Nat} {q0 : vw_C} {ty : FieldType} (hd : decode (pz_cc κ) pc = .ok (.putfield i, 3)) (hc0 : pz_cls[ci]? = some q0) (hj : j < q0.2.2) (hw : Cond.fieldLink (pz_own κ) i (q0.2.1 j).1 (q0.2.1 j).2.1 (q0.2.1 j).2.2.1 ∈ pz_TB) (hfin : (q0.2.1 j).2.2.2 = true) (hdt : parseFieldDescriptor (q0.2.1 j).2.2.1 = some ty) (hin2 : pz_nm κ = "<init>") (hdecl : (q0.2.1 j).1 = pz_own κ) {φ : pz_V → State → Prop} {Q : pz_Q} {k : pz_k} {u : Nat × Nat} {L : pz_L} {S : List Value} {M : pz_M} {v : Value} {r c9 : Nat} {fs : List Value} {v0 : Value} (hq : pz_nth M r = some (.inr (.inr (c9, fs)))) (hci : c9 = ci) (hv : pz_nth fs j = some v0) (hn : ∀ E : pz_V, narrow ty (pz_v E v) = pz_v E v) (hfit : ∀ E : pz_V, fits ty (pz_v E v) = true)
    (h : k (pc + 3) u L S (pz_set M r (.inr (.inr (c9, pz_set fs j v))))) (hk : ∀ (pc' : Nat) (u' : Nat × Nat) (L' : pz_L) (S' : List Value) (M' : pz_M), k pc' u' L' S' M' → pz_T φ κ Q pc' u' L' S' M') : pz_T φ κ Q pc u L (v :: .ref r :: S) M := by
  intro E p l e R s m args below meth c H locs ls P C h1 h2 hW hS hl hr
  subst hci
  have hx := C.1
  have hb := C.2.1
  have hown := C.2.2.2.1
  have hts := C.2.2.2.2.1
  have hK := C.2.2.2.2.2.2.2.2.2.2.1
  have ha := hW.at hq
  have hjf : j < fs.length := by rw [pz_nth_eq] at hv; exact (List.getElem?_eq_some_iff.mp hv).1
  obtain ⟨hin, ty0, hty, hnm⟩ := pz_cok_all c9 q0 hc0
  have hap := va_apart (own := pz_own κ) hts hin ty0 hty hnm hK hc0
  obtain ⟨r9, z1, cell, q1, q2, q3, q4⟩ := ha.1
  have hr9 : r9 = q0 := Option.some.inj (z1.symm.trans hc0)
  subst hr9
  obtain ⟨hSl, hfc, kC, hkC, hkind⟩ := hK.1 c9 _ hc0
  obtain ⟨cf, kf, fi, f, hi, hsl⟩ := hSl j hj
  have hlay := hts _ (hin _ (u_in_lay hj))
  unfold u_lay at hlay
  rw [if_pos hfin] at hlay
  have hst := (u_facts hfc hkC (u_lays hts hin hj) hi).1
  have eS : List.map (pz_v E) (v :: .ref r :: S) = pz_v E v :: .ref (E.2.2.1 + r) :: List.map (pz_v E) S := by rw [← ha.2]; rfl
  rw [eS]
  have hcf : m.cls = cf := by
    obtain ⟨_, _, c', _, _, _, -, -, hf', -, -, -, hown2, -⟩ := Cond.laysFinal_spec hlay
    have e1 : c' = cf := by have := hi.symm.trans hf'; simp at this; exact this.1.symm
    rw [hdecl] at hown2
    rw [← e1]; exact Option.some.inj (hown.symm.trans hown2)
  have h6 := u_fits hfc hkC hkind (Or.inr hlay) hi hdt (hn E) (hfit E)
  refine W.putFinK hx hb hown (hts _ hw) hi hst hcf (C.2.2.2.2.2.1.trans hin2) (by rw [q2]; exact h6) q1 q3 (by rw [hsl]; exact k2_hasslot (q4 j hj)) rfl rfl hd fun H' e1 e2 e3 => ?_
  rw [hsl] at e1
  exact hk _ _ _ _ _ h E p l e R s m args below meth c H' _ ls P C h1 h2 (hW.set hq e2 e3 (pz_put_at hc0 hj hjf q2 q3 q4 hap e1)) (hS.put e2 e3 (Nat.le_add_right _ _)) hl hr
def pz_puti (ci j n : Nat) : pz_I := fun Q k u L S M => match S with
  | .int x :: .ref r :: S => match pz_nth M r with
    | some (.inr (.inr (c, fs))) => match c == ci with
      | true => match pz_nth fs j with
        | some _ => k n u L S (pz_set M r (.inr (.inr (c, pz_set fs j (.int x)))))
        | none => False
      | false => False
    | _ => False
  | _ => False
theorem pz_s_puti {κ : pz_K} {pc i ci j : Nat} {q0 : vw_C}  (hd : decode (pz_cc κ) pc = .ok (.putfield i, 3)) (hc0 : pz_cls[ci]? = some q0) (hj : j < q0.2.2) (hw : Cond.fieldLink (pz_own κ) i (q0.2.1 j).1 (q0.2.1 j).2.1 (q0.2.1 j).2.2.1 ∈ pz_TB) (hfin : (q0.2.1 j).2.2.2 = false) (hdt : parseFieldDescriptor (q0.2.1 j).2.2.1 = some .int) : pz_S κ pc (pz_puti ci j (pc + 3)) := by
  intro φ Q k u L S M h hk
  unfold pz_puti at h
  split at h
  · split at h
    · next c9 fs hq =>
      split at h
      · next hci =>
        split at h
        · next v0 hv => exact pz_put_core (v := .int _) hd hc0 hj hw hfin hdt hq (by simpa using hci) hv (fun _ => rfl) (fun _ => rfl) h hk
        · exact h.elim
      · exact h.elim
    · exact h.elim
  · exact h.elim
def pz_putz (ci j n : Nat) : pz_I := fun Q k u L S M => match S with
  | .int x :: .ref r :: S => match pz_nth M r with
    | some (.inr (.inr (c, fs))) => match c == ci with
      | true => match pz_nth fs j with
        | some _ => (x = 0 ∨ x = 1) ∧ k n u L S (pz_set M r (.inr (.inr (c, pz_set fs j (.int x)))))
        | none => False
      | false => False
    | _ => False
  | _ => False
theorem pz_s_putz {κ : pz_K} {pc i ci j : Nat} {q0 : vw_C}  (hd : decode (pz_cc κ) pc = .ok (.putfield i, 3)) (hc0 : pz_cls[ci]? = some q0) (hj : j < q0.2.2) (hw : Cond.fieldLink (pz_own κ) i (q0.2.1 j).1 (q0.2.1 j).2.1 (q0.2.1 j).2.2.1 ∈ pz_TB) (hfin : (q0.2.1 j).2.2.2 = false) (hdt : parseFieldDescriptor (q0.2.1 j).2.2.1 = some .boolean) : pz_S κ pc (pz_putz ci j (pc + 3)) := by
  intro φ Q k u L S M h hk
  unfold pz_putz at h
  split at h
  · split at h
    · next c9 fs hq =>
      split at h
      · next hci =>
        split at h
        · next v0 hv => exact pz_put_core (v := .int _) hd hc0 hj hw hfin hdt hq (by simpa using hci) hv (fun _ => by rcases h.1 with rfl | rfl <;> rfl) (fun _ => by rcases h.1 with rfl | rfl <;> rfl) h.2 hk
        · exact h.elim
      · exact h.elim
    · exact h.elim
  · exact h.elim
def pz_puta (ci j n : Nat) : pz_I := fun Q k u L S M => match S with
  | .ref x :: .ref r :: S => match pz_nth M r with
    | some (.inr (.inr (c, fs))) => match c == ci with
      | true => match pz_nth fs j with
        | some _ => k n u L S (pz_set M r (.inr (.inr (c, pz_set fs j (.ref x)))))
        | none => False
      | false => False
    | _ => False
  | .null :: .ref r :: S => match pz_nth M r with
    | some (.inr (.inr (c, fs))) => match c == ci with
      | true => match pz_nth fs j with
        | some _ => k n u L S (pz_set M r (.inr (.inr (c, pz_set fs j .null))))
        | none => False
      | false => False
    | _ => False
  | _ => False
theorem pz_s_puta {κ : pz_K} {pc i ci j : Nat} {q0 : vw_C} {nm : String} (hd : decode (pz_cc κ) pc = .ok (.putfield i, 3)) (hc0 : pz_cls[ci]? = some q0) (hj : j < q0.2.2) (hw : Cond.fieldLink (pz_own κ) i (q0.2.1 j).1 (q0.2.1 j).2.1 (q0.2.1 j).2.2.1 ∈ pz_TB) (hfin : (q0.2.1 j).2.2.2 = false) (hdt : parseFieldDescriptor (q0.2.1 j).2.2.1 = some (.object nm)) : pz_S κ pc (pz_puta ci j (pc + 3)) := by
  intro φ Q k u L S M h hk
  unfold pz_puta at h
  split at h
  · split at h
    · next c9 fs hq =>
      split at h
      · next hci =>
        split at h
        · next v0 hv => exact pz_put_core (v := .ref _) hd hc0 hj hw hfin hdt hq (by simpa using hci) hv (fun _ => rfl) (fun _ => rfl) h hk
        · exact h.elim
      · exact h.elim
    · exact h.elim
  · split at h
    · next c9 fs hq =>
      split at h
      · next hci =>
        split at h
        · next v0 hv => exact pz_put_core (v := .null) hd hc0 hj hw hfin hdt hq (by simpa using hci) hv (fun _ => rfl) (fun _ => rfl) h hk
        · exact h.elim
      · exact h.elim
    · exact h.elim
  · exact h.elim
theorem pz_s_putaF {κ : pz_K} {pc i ci j : Nat} {q0 : vw_C} {nm : String} (hd : decode (pz_cc κ) pc = .ok (.putfield i, 3)) (hc0 : pz_cls[ci]? = some q0) (hj : j < q0.2.2) (hw : Cond.fieldLink (pz_own κ) i (q0.2.1 j).1 (q0.2.1 j).2.1 (q0.2.1 j).2.2.1 ∈ pz_TB) (hfin : (q0.2.1 j).2.2.2 = true) (hdt : parseFieldDescriptor (q0.2.1 j).2.2.1 = some (.object nm)) (hin2 : pz_nm κ = "<init>") (hdecl : (q0.2.1 j).1 = pz_own κ) : pz_S κ pc (pz_puta ci j (pc + 3)) := by
  intro φ Q k u L S M h hk
  unfold pz_puta at h
  split at h
  · split at h
    · next c9 fs hq =>
      split at h
      · next hci =>
        split at h
        · next v0 hv => exact pz_putF_core (v := .ref _) hd hc0 hj hw hfin hdt hin2 hdecl hq (by simpa using hci) hv (fun _ => rfl) (fun _ => rfl) h hk
        · exact h.elim
      · exact h.elim
    · exact h.elim
  · split at h
    · next c9 fs hq =>
      split at h
      · next hci =>
        split at h
        · next v0 hv => exact pz_putF_core (v := .null) hd hc0 hj hw hfin hdt hin2 hdecl hq (by simpa using hci) hv (fun _ => rfl) (fun _ => rfl) h hk
        · exact h.elim
      · exact h.elim
    · exact h.elim
  · exact h.elim
theorem pz_s_putaFA {κ : pz_K} {pc i ci j : Nat} {q0 : vw_C} {t9 : FieldType} (hd : decode (pz_cc κ) pc = .ok (.putfield i, 3)) (hc0 : pz_cls[ci]? = some q0) (hj : j < q0.2.2) (hw : Cond.fieldLink (pz_own κ) i (q0.2.1 j).1 (q0.2.1 j).2.1 (q0.2.1 j).2.2.1 ∈ pz_TB) (hfin : (q0.2.1 j).2.2.2 = true) (hdt : parseFieldDescriptor (q0.2.1 j).2.2.1 = some (.array t9)) (hin2 : pz_nm κ = "<init>") (hdecl : (q0.2.1 j).1 = pz_own κ) : pz_S κ pc (pz_puta ci j (pc + 3)) := by
  intro φ Q k u L S M h hk
  unfold pz_puta at h
  split at h
  · split at h
    · next c9 fs hq =>
      split at h
      · next hci =>
        split at h
        · next v0 hv => exact pz_putF_core (v := .ref _) hd hc0 hj hw hfin hdt hin2 hdecl hq (by simpa using hci) hv (fun _ => rfl) (fun _ => rfl) h hk
        · exact h.elim
      · exact h.elim
    · exact h.elim
  · split at h
    · next c9 fs hq =>
      split at h
      · next hci =>
        split at h
        · next v0 hv => exact pz_putF_core (v := .null) hd hc0 hj hw hfin hdt hin2 hdecl hq (by simpa using hci) hv (fun _ => rfl) (fun _ => rfl) h hk
        · exact h.elim
      · exact h.elim
    · exact h.elim
  · exact h.elim
end
section
def pz_cat : List Value → Nat
  | [] => 0
  | v :: S => v.category + pz_cat S
theorem pz_cat_eq : ∀ S : List Value, pz_cat S = (S.map fun v => v.category).sum
  | [] => rfl
  | v :: S => by rw [pz_cat, pz_cat_eq S, List.map_cons, List.sum_cons]
theorem pz_cat_le {E : pz_V} {S : List Value} (h : Nat.ble (pz_cat S) 8 = true) : ((S.map (pz_v E)).map fun v => v.category).sum ≤ 8 := by
  rw [pz_cats, ← pz_cat_eq]; exact Nat.le_of_ble_eq_true h
theorem pz_x_out {E : pz_V} {i : Nat} (h : ¬ i < 1000000) : pz_x E i = E.2.2.2 i := if_neg h
theorem pz_W.next {E : pz_V} {M : pz_M} {H : Heap} (h : pz_W E M H) (hM : M.length < 1000000) : pz_x E M.length = H.size := by unfold pz_x; rw [if_pos hM, h.1]
def pz_new (mc ms ci N : Nat) (fs : List Value) (n : Nat) : pz_I := fun Q k u L S M => u.1 + 1 ≤ mc ∧ u.2 + N ≤ ms ∧ M.length < 1000000 ∧ k n (u.1 + 1, u.2 + N) L (.ref M.length :: S) (M ++ [.inr (.inr (ci, fs))])
theorem pz_s_new {κ : pz_K} {pc i ci : Nat} {q0 : vw_C} {fs : List Value} (hd : decode (pz_cc κ) pc = .ok (.new i, 3)) (hc0 : pz_cls[ci]? = some q0) (ty : Nat → FieldType) (hty : ∀ k, k < q0.2.2 → parseFieldDescriptor (q0.2.1 k).2.2.1 = some (ty k)) (hfs : ∀ j, j < q0.2.2 → defaultValue (ty j) = vp_V fs j) (hfv : ∀ E : pz_V, fs.map (pz_v E) = fs) (hw1 : Cond.classLink (pz_own κ) i q0.1 ∈ pz_TB) (hw2 : Cond.instantiable q0.1 q0.2.2 ∈ pz_TB) (hw3 : Cond.initialized q0.1 ∈ pz_TB) : pz_S κ pc (pz_new (pz_mc κ) (pz_ms κ) ci q0.2.2 fs (pc + 3)) := by
  intro φ Q k u L S M h hk E p l e R s m args below meth c H locs ls P C h1 h2 hW hS hl hr
  have hx := C.1
  have hb := C.2.1
  have hml := C.2.2.1
  have hown := C.2.2.2.1
  have hts := C.2.2.2.2.1
  have hfr := C.2.2.2.2.2.2.1
  have hlo := C.2.2.2.2.2.2.2.1
  have hmc := C.2.2.2.2.2.2.2.2.1
  have hms := C.2.2.2.2.2.2.2.2.2.1
  have hK := C.2.2.2.2.2.2.2.2.2.2.1
  have hG := C.2.2.2.2.2.2.2.2.2.2.2.1
  have hB := C.2.2.2.2.2.2.2.2.2.2.2.2.1
  obtain ⟨a1, a2, a3, h⟩ := h
  have hKn := hK.1 ci _ hc0
  refine W.newcK hx hb hown (hts _ hw1) (hts _ hw2) (hts _ hw3) rfl hd (by rw [hmc]; exact a1) (by rw [hms]; exact a2) hKn.2.1 rfl fun H1 kC hkC e1 z1 o1 => ?_
  have hk' := hk _ _ _ _ _ h E p l e R s m args below meth c H1 locs ls P C a1 a2 (hW.push a3 z1 o1 ?_) (pz_push (M := M) hS z1 o1) hl hr
  · rw [List.map_cons, show pz_v E (.ref M.length) = .ref H.size by show Value.ref (pz_x E M.length) = _; rw [hW.next a3]] at hk'
    exact hk'
  · refine ⟨q0, hc0, ?_⟩
    show t_OB H.size (E.1.1 ci) q0.2.2 (E.1.2 ci) H1 (vp_V (fs.map (pz_v E)))
    rw [hfv]
    exact (u_born ty hts (pz_cok_all ci q0 hc0).1 hKn hkC e1 hty).to hfs
def pz_newa (mc ms t N : Nat) (n : Nat) : pz_I := fun Q k u L S M => match S with
  | .int z :: S => z = nI N ∧ u.1 + 1 ≤ mc ∧ u.2 + N ≤ ms ∧ M.length < 1000000 ∧ k n (u.1 + 1, u.2 + N) L (.ref M.length :: S) (M ++ [.inl (t, N, fun _ => 0)])
  | _ => False
theorem pz_s_newi {κ : pz_K} {pc N : Nat} (hd : decode (pz_cc κ) pc = .ok (.newarray .int, 2)) (hN : N < 65536) (hw : Cond.arrayClass .int ∈ pz_TB) : pz_S κ pc (pz_newa (pz_mc κ) (pz_ms κ) 0 N (pc + 2)) := by
  intro φ Q k u L S M h hk E p l e R s m args below meth c H locs ls P C h1 h2 hW hS hl hr
  have hx := C.1
  have hb := C.2.1
  have hml := C.2.2.1
  have hown := C.2.2.2.1
  have hts := C.2.2.2.2.1
  have hfr := C.2.2.2.2.2.2.1
  have hlo := C.2.2.2.2.2.2.2.1
  have hmc := C.2.2.2.2.2.2.2.2.1
  have hms := C.2.2.2.2.2.2.2.2.2.1
  have hK := C.2.2.2.2.2.2.2.2.2.2.1
  have hG := C.2.2.2.2.2.2.2.2.2.2.2.1
  have hB := C.2.2.2.2.2.2.2.2.2.2.2.2.1
  unfold pz_newa at h
  split at h
  · next z S' =>
    obtain ⟨a0, a1, a2, a3, h⟩ := h
    subst a0
    refine va_newaK (atype := .int) (N := N) hx hb (hts _ hw) rfl hd rfl (nI_pos (by omega)) (nI_clamp (by omega)) (by show N * componentBytes .int ≤ _; simp only [componentBytes]; omega) (by rw [hmc]; exact a1) (by rw [hms]; exact a2) rfl fun H1 cA e1 z1 o1 hAr hNm => ?_
    have hcA : cA = E.2.1 0 := Option.some.inj (hNm.symm.trans (hK.2 0 _ rfl).2)
    subst hcA
    have hk' := hk _ _ _ _ _ h E p l e R s m args below meth c H1 locs ls P C a1 a2 (hW.push a3 z1 o1 ?_) (pz_push (M := M) hS z1 o1) hl hr
    · rw [List.map_cons, show pz_v E (.ref M.length) = .ref H.size by show Value.ref (pz_x E M.length) = _; rw [hW.next a3]] at hk'
      exact hk'
    · exact e1
  · exact h.elim
theorem pz_s_newb {κ : pz_K} {pc N : Nat} (hd : decode (pz_cc κ) pc = .ok (.newarray .byte, 2)) (hN : N < 65536) (hw : Cond.arrayClass .byte ∈ pz_TB) : pz_S κ pc (pz_newa (pz_mc κ) (pz_ms κ) 1 N (pc + 2)) := by
  intro φ Q k u L S M h hk E p l e R s m args below meth c H locs ls P C h1 h2 hW hS hl hr
  have hx := C.1
  have hb := C.2.1
  have hml := C.2.2.1
  have hown := C.2.2.2.1
  have hts := C.2.2.2.2.1
  have hfr := C.2.2.2.2.2.2.1
  have hlo := C.2.2.2.2.2.2.2.1
  have hmc := C.2.2.2.2.2.2.2.2.1
  have hms := C.2.2.2.2.2.2.2.2.2.1
  have hK := C.2.2.2.2.2.2.2.2.2.2.1
  have hG := C.2.2.2.2.2.2.2.2.2.2.2.1
  have hB := C.2.2.2.2.2.2.2.2.2.2.2.2.1
  unfold pz_newa at h
  split at h
  · next z S' =>
    obtain ⟨a0, a1, a2, a3, h⟩ := h
    subst a0
    refine va_newaK (atype := .byte) (N := N) hx hb (hts _ hw) rfl hd rfl (nI_pos (by omega)) (nI_clamp (by omega)) (by show N * componentBytes .byte ≤ _; simp only [componentBytes]; omega) (by rw [hmc]; exact a1) (by rw [hms]; exact a2) rfl fun H1 cA e1 z1 o1 hAr hNm => ?_
    have hcA : cA = E.2.1 1 := Option.some.inj (hNm.symm.trans (hK.2 1 _ rfl).2)
    subst hcA
    have hk' := hk _ _ _ _ _ h E p l e R s m args below meth c H1 locs ls P C a1 a2 (hW.push a3 z1 o1 ?_) (pz_push (M := M) hS z1 o1) hl hr
    · rw [List.map_cons, show pz_v E (.ref M.length) = .ref H.size by show Value.ref (pz_x E M.length) = _; rw [hW.next a3]] at hk'
      exact hk'
    · exact e1
  · exact h.elim
def pz_newq (mc ms t N : Nat) (n : Nat) : pz_I := fun Q k u L S M => match S with
  | .int z :: S => z = nI N ∧ u.1 + 1 ≤ mc ∧ u.2 + N ≤ ms ∧ M.length < 1000000 ∧ k n (u.1 + 1, u.2 + N) L (.ref M.length :: S) (M ++ [.inr (.inl (t, N, fun _ => none))])
  | _ => False
theorem pz_s_newq {κ : pz_K} {pc i t N : Nat} {C0 : String} (hd : decode (pz_cc κ) pc = .ok (.anewarray i, 3)) (hN : N < 65536) (ht : pz_aty t = some C0) (hw : Cond.classLink (pz_own κ) i C0 ∈ pz_TB) : pz_S κ pc (pz_newq (pz_mc κ) (pz_ms κ) t N (pc + 3)) := by
  intro φ Q k u L S M h hk E p l e R s m args below meth c H locs ls P C h1 h2 hW hS hl hr
  have hx := C.1
  have hb := C.2.1
  have hml := C.2.2.1
  have hown := C.2.2.2.1
  have hts := C.2.2.2.2.1
  have hfr := C.2.2.2.2.2.2.1
  have hlo := C.2.2.2.2.2.2.2.1
  have hmc := C.2.2.2.2.2.2.2.2.1
  have hms := C.2.2.2.2.2.2.2.2.2.1
  have hK := C.2.2.2.2.2.2.2.2.2.2.1
  have hG := C.2.2.2.2.2.2.2.2.2.2.2.1
  have hB := C.2.2.2.2.2.2.2.2.2.2.2.2.1
  unfold pz_newq at h
  split at h
  · next z S' =>
    obtain ⟨a0, a1, a2, a3, h⟩ := h
    subst a0
    have hcl : (nI N).toNatClampNeg = N := nI_clamp (by omega)
    have hAO : va_AO C0 s := by
      match t, ht with
      | 0, ht => cases ht
      | 1, ht => cases ht
      | 2, ht => cases ht; exact hG.2.2.1.1
      | 3, ht => cases ht; exact hG.2.2.1.2.1
      | 4, ht => cases ht; exact hG.2.2.1.2.2
      | n + 5, ht => cases ht
    refine W.anew hx hb hown (hts _ hw) (va_AO.use hAO) rfl hd rfl (nI_pos (by omega)) (by rw [hcl]; omega) (by rw [hmc]; exact a1) (by rw [hms, hcl]; exact a2) fun cA kA comp f1 f2 f3 f4 => ?_
    rw [hcl]
    generalize hH1 : H.push ({ cls := cA, slots := Array.replicate N .null, vm := .none } : Cell) = H1
    have z1 : H1.size = H.size + 1 := by rw [← hH1, Array.size_push]
    have e1 : H1[H.size]? = some (arrV cA N (fun _ => .null)) := by rw [← hH1, Array.getElem?_push_size, ← arrV_new]
    have o1 : ∀ q : Nat, q < H.size → H1[q]? = H[q]? := fun q hq => by rw [← hH1, Array.getElem?_push, if_neg (Nat.ne_of_lt hq)]
    have hcA : cA = E.2.1 t := by
      obtain ⟨_, _, _, _, _, g4⟩ := (hK.2 t _ (pz_aty_ok ht)).2
      exact Option.some.inj (f1.symm.trans g4)
    subst hcA
    have hk' := hk _ _ _ _ _ h E p l e R s m args below meth c H1 locs ls P C a1 a2 (hW.push a3 z1 o1 ?_) (pz_push (M := M) hS z1 o1) hl hr
    · rw [List.map_cons, show pz_v E (.ref M.length) = .ref H.size by show Value.ref (pz_x E M.length) = _; rw [hW.next a3]] at hk'
      exact hk'
    · exact e1
  · exact h.elim
def pz_gst (t n : Nat) : pz_I := fun Q k u L S M => k n u L (.ref (1000000 + t) :: S) M
theorem pz_s_gst {κ : pz_K} {pc i t : Nat} (hd : decode (pz_cc κ) pc = .ok (.getstatic i, 3)) (ht : t < 4) (hw : Cond.fieldLink (pz_own κ) i (pz_stn t).1 (pz_stn t).2.1 "[I" ∈ pz_TB) : pz_S κ pc (pz_gst t (pc + 3)) := by
  intro φ Q k u L S M h hk E p l e R s m args below meth c H locs ls P C h1 h2 hW hS hl hr
  have hx := C.1
  have hb := C.2.1
  have hml := C.2.2.1
  have hown := C.2.2.2.1
  have hts := C.2.2.2.2.1
  have hfr := C.2.2.2.2.2.2.1
  have hlo := C.2.2.2.2.2.2.2.1
  have hmc := C.2.2.2.2.2.2.2.2.1
  have hms := C.2.2.2.2.2.2.2.2.2.1
  have hK := C.2.2.2.2.2.2.2.2.2.2.1
  have hG := C.2.2.2.2.2.2.2.2.2.2.2.1
  have hB := C.2.2.2.2.2.2.2.2.2.2.2.2.1
  have hk' := (hk _ _ _ _ _ h E p l e R s m args below meth c H locs ls P C h1 h2 hW hS hl hr)
  rw [List.map_cons, show pz_v E (.ref (1000000 + t)) = .ref (E.2.2.2 (1000000 + t)) by show Value.ref (pz_x E _) = _; rw [pz_x_out (by omega)]] at hk'
  exact va_gets hx hb (hG.1 t ht).1 hS hown (hts _ hw) (fun _ h9 => h9) hd hk'
theorem pz_s_gstN {κ : pz_K} {pc i t : Nat} {host : String} (hd : decode (pz_cc κ) pc = .ok (.getstatic i, 3)) (ht : t < 4) (hw : Cond.fieldLinkNest (pz_own κ) i (pz_stn t).1 (pz_stn t).2.1 "[I" host ∈ pz_nw) : pz_S κ pc (pz_gst t (pc + 3)) := by
  intro φ Q k u L S M h hk E p l e R s m args below meth c H locs ls P C h1 h2 hW hS hl hr
  have hx := C.1
  have hb := C.2.1
  have hml := C.2.2.1
  have hown := C.2.2.2.1
  have hts := C.2.2.2.2.1
  have hfr := C.2.2.2.2.2.2.1
  have hlo := C.2.2.2.2.2.2.2.1
  have hmc := C.2.2.2.2.2.2.2.2.1
  have hms := C.2.2.2.2.2.2.2.2.2.1
  have hK := C.2.2.2.2.2.2.2.2.2.2.1
  have hG := C.2.2.2.2.2.2.2.2.2.2.2.1
  have hB := C.2.2.2.2.2.2.2.2.2.2.2.2.1
  have hk' := (hk _ _ _ _ _ h E p l e R s m args below meth c H locs ls P C h1 h2 hW hS hl hr)
  rw [List.map_cons, show pz_v E (.ref (1000000 + t)) = .ref (E.2.2.2 (1000000 + t)) by show Value.ref (pz_x E _) = _; rw [pz_x_out (by omega)]] at hk'
  exact va_getsN hx hb (hG.1 t ht).1 hS hown (va_Nw.use rfl (hG.2.1 _ hw)) (fun _ h9 => h9) hd hk'
def pz_sald (t n : Nat) : pz_I := fun Q k u L S M => match S with
  | .int i :: .ref r :: S => match Nat.beq r (1000000 + t) with
    | true => vp_in i (pz_stn t).2.2.1 ∧ k n u L (.int ((pz_stn t).2.2.2.getD i.toNatClampNeg 0) :: S) M
    | false => False
  | _ => False
theorem pz_s_sald {κ : pz_K} {pc t : Nat} (hd : decode (pz_cc κ) pc = .ok (.iaload, 1)) (ht : t < 4) : pz_S κ pc (pz_sald t (pc + 1)) := by
  intro φ Q k u L S M h hk E p l e R s m args below meth c H locs ls P C h1 h2 hW hS hl hr
  have hx := C.1
  have hb := C.2.1
  have hml := C.2.2.1
  have hown := C.2.2.2.1
  have hts := C.2.2.2.2.1
  have hfr := C.2.2.2.2.2.2.1
  have hlo := C.2.2.2.2.2.2.2.1
  have hmc := C.2.2.2.2.2.2.2.2.1
  have hms := C.2.2.2.2.2.2.2.2.2.1
  have hK := C.2.2.2.2.2.2.2.2.2.2.1
  have hG := C.2.2.2.2.2.2.2.2.2.2.2.1
  have hB := C.2.2.2.2.2.2.2.2.2.2.2.2.1
  unfold pz_sald at h
  split at h
  · next i r S' =>
    split at h
    · next hq =>
      have hq : r = 1000000 + t := Nat.eq_of_beq_eq_true hq
      subst hq
      have hk' := (hk _ _ _ _ _ h.2 E p l e R s m args below meth c H locs ls P C h1 h2 hW hS hl hr)
      have eS : List.map (pz_v E) (.int i :: .ref (1000000 + t) :: S') = .int i :: .ref (E.2.2.2 (1000000 + t)) :: List.map (pz_v E) S' := by
        rw [List.map_cons, List.map_cons, show pz_v E (.ref (1000000 + t)) = .ref (E.2.2.2 (1000000 + t)) by show Value.ref (pz_x E _) = _; rw [pz_x_out (by omega)]]
        rfl
      rw [eS]
      exact va_ti hx hb (hG.1 t ht).2 hS h.1 rfl hd hk'
    · exact h.elim
  · exact h.elim
def pz_mmin (n : Nat) : pz_I := fun Q k u L S M => match S with
  | .int y :: .int x :: S => match Nat.ble (pz_cat S) 8 with
    | true => k n u L (.int (if y < x then y else x) :: S) M
    | false => False
  | _ => False
theorem pz_s_mmin {κ : pz_K} {pc i : Nat} (hd : decode (pz_cc κ) pc = .ok (.invokestatic i, 3)) (hdp : 1 ≤ pz_d κ) (hw1 : Cond.methodLink (pz_own κ) i Lib.Math.min.name ∈ pz_TB) (hw2 : Cond.static Lib.Math.min.name ∈ pz_TB) (hw3 : Cond.initialized "java/lang/Math" ∈ pz_TB) (hw4 : Cond.code Lib.Math.min.name Lib.Math.min.code 2 (some .int) ∈ pz_TB) : pz_S κ pc (pz_mmin (pc + 3)) := by
  intro φ Q k u L S M h hk E p l e R s m args below meth c H locs ls P C h1 h2 hW hS hl hr
  have hx := C.1
  have hb := C.2.1
  have hml := C.2.2.1
  have hown := C.2.2.2.1
  have hts := C.2.2.2.2.1
  have hfr := C.2.2.2.2.2.2.1
  have hlo := C.2.2.2.2.2.2.2.1
  have hmc := C.2.2.2.2.2.2.2.2.1
  have hms := C.2.2.2.2.2.2.2.2.2.1
  have hK := C.2.2.2.2.2.2.2.2.2.2.1
  have hG := C.2.2.2.2.2.2.2.2.2.2.2.1
  have hB := C.2.2.2.2.2.2.2.2.2.2.2.2.1
  unfold pz_mmin at h
  split at h
  · next y x S' =>
    split at h
    · next hc =>
      have hk' := (hk _ _ _ _ _ h E p l e R s m args below meth c H locs ls P C h1 h2 hW hS hl hr)
      have hc' := pz_cat_le (E := E) hc
      exact va_mmin hx hb (by rw [hml]; exact hl.2.1.symm) hown (hts _ hw1) (hts _ hw2) (hts _ hw3) (hts _ hw4) (by omega) (by omega) (by rw [hmc]; exact h1) (by rw [hms]; exact h2) hd hk'
    · exact h.elim
  · exact h.elim
def pz_mmax (n : Nat) : pz_I := fun Q k u L S M => match S with
  | .int y :: .int x :: S => match Nat.ble (pz_cat S) 8 with
    | true => k n u L (.int (if x < y then y else x) :: S) M
    | false => False
  | _ => False
theorem pz_s_mmax {κ : pz_K} {pc i : Nat} (hd : decode (pz_cc κ) pc = .ok (.invokestatic i, 3)) (hdp : 1 ≤ pz_d κ) (hw1 : Cond.methodLink (pz_own κ) i Lib.Math.max.name ∈ pz_TB) (hw2 : Cond.static Lib.Math.max.name ∈ pz_TB) (hw3 : Cond.initialized "java/lang/Math" ∈ pz_TB) (hw4 : Cond.code Lib.Math.max.name Lib.Math.max.code 2 (some .int) ∈ pz_TB) : pz_S κ pc (pz_mmax (pc + 3)) := by
  intro φ Q k u L S M h hk E p l e R s m args below meth c H locs ls P C h1 h2 hW hS hl hr
  have hx := C.1
  have hb := C.2.1
  have hml := C.2.2.1
  have hown := C.2.2.2.1
  have hts := C.2.2.2.2.1
  have hfr := C.2.2.2.2.2.2.1
  have hlo := C.2.2.2.2.2.2.2.1
  have hmc := C.2.2.2.2.2.2.2.2.1
  have hms := C.2.2.2.2.2.2.2.2.2.1
  have hK := C.2.2.2.2.2.2.2.2.2.2.1
  have hG := C.2.2.2.2.2.2.2.2.2.2.2.1
  have hB := C.2.2.2.2.2.2.2.2.2.2.2.2.1
  unfold pz_mmax at h
  split at h
  · next y x S' =>
    split at h
    · next hc =>
      have hk' := (hk _ _ _ _ _ h E p l e R s m args below meth c H locs ls P C h1 h2 hW hS hl hr)
      have hc' := pz_cat_le (E := E) hc
      exact va_mmax hx hb (by rw [hml]; exact hl.2.1.symm) hown (hts _ hw1) (hts _ hw2) (hts _ hw3) (hts _ hw4) (by omega) (by omega) (by rw [hmc]; exact h1) (by rw [hms]; exact h2) hd hk'
    · exact h.elim
  · exact h.elim
def pz_mabs (n : Nat) : pz_I := fun Q k u L S M => match S with
  | .int x :: S => match Nat.ble (pz_cat S) 8 with
    | true => k n u L (.int (if 0 ≤ x then x else 0 - x) :: S) M
    | false => False
  | _ => False
theorem pz_s_mabs {κ : pz_K} {pc i : Nat} (hd : decode (pz_cc κ) pc = .ok (.invokestatic i, 3)) (hdp : 1 ≤ pz_d κ) (hw1 : Cond.methodLink (pz_own κ) i Lib.Math.abs.name ∈ pz_TB) (hw2 : Cond.static Lib.Math.abs.name ∈ pz_TB) (hw3 : Cond.initialized "java/lang/Math" ∈ pz_TB) (hw4 : Cond.code Lib.Math.abs.name Lib.Math.abs.code 1 (some .int) ∈ pz_TB) : pz_S κ pc (pz_mabs (pc + 3)) := by
  intro φ Q k u L S M h hk E p l e R s m args below meth c H locs ls P C h1 h2 hW hS hl hr
  have hx := C.1
  have hb := C.2.1
  have hml := C.2.2.1
  have hown := C.2.2.2.1
  have hts := C.2.2.2.2.1
  have hfr := C.2.2.2.2.2.2.1
  have hlo := C.2.2.2.2.2.2.2.1
  have hmc := C.2.2.2.2.2.2.2.2.1
  have hms := C.2.2.2.2.2.2.2.2.2.1
  have hK := C.2.2.2.2.2.2.2.2.2.2.1
  have hG := C.2.2.2.2.2.2.2.2.2.2.2.1
  have hB := C.2.2.2.2.2.2.2.2.2.2.2.2.1
  unfold pz_mabs at h
  split at h
  · next x S' =>
    split at h
    · next hc =>
      have hk' := (hk _ _ _ _ _ h E p l e R s m args below meth c H locs ls P C h1 h2 hW hS hl hr)
      have hc' := pz_cat_le (E := E) hc
      exact va_mabs hx hb (by rw [hml]; exact hl.2.1.symm) hown (hts _ hw1) (hts _ hw2) (hts _ hw3) (hts _ hw4) (by omega) (by omega) (by rw [hmc]; exact h1) (by rw [hms]; exact h2) hd hk'
    · exact h.elim
  · exact h.elim
def pz_oinit (n : Nat) : pz_I := fun Q k u L S M => match S with
  | .ref _ :: S => match Nat.ble (pz_cat S) 8 with
    | true => k n u L S M
    | false => False
  | _ => False
theorem pz_s_oinit {κ : pz_K} {pc i : Nat} (hd : decode (pz_cc κ) pc = .ok (.invokespecial i, 3)) (hdp : 1 ≤ pz_d κ) (hw1 : Cond.methodLink (pz_own κ) i Lib.objectInit ∈ pz_TB) (hw2 : Cond.instanceMethod Lib.objectInit ∈ pz_TB) (hw3 : Cond.code Lib.objectInit ⟨#[0xb1]⟩ 1 none ∈ pz_TB) : pz_S κ pc (pz_oinit (pc + 3)) := by
  intro φ Q k u L S M h hk E p l e R s m args below meth c H locs ls P C h1 h2 hW hS hl hr
  have hx := C.1
  have hb := C.2.1
  have hml := C.2.2.1
  have hown := C.2.2.2.1
  have hts := C.2.2.2.2.1
  have hfr := C.2.2.2.2.2.2.1
  have hlo := C.2.2.2.2.2.2.2.1
  have hmc := C.2.2.2.2.2.2.2.2.1
  have hms := C.2.2.2.2.2.2.2.2.2.1
  have hK := C.2.2.2.2.2.2.2.2.2.2.1
  have hG := C.2.2.2.2.2.2.2.2.2.2.2.1
  have hB := C.2.2.2.2.2.2.2.2.2.2.2.2.1
  unfold pz_oinit at h
  split at h
  · next r S' =>
    split at h
    · next hc =>
      have hk' := (hk _ _ _ _ _ h E p l e R s m args below meth c H locs ls P C h1 h2 hW hS hl hr)
      have hc' := pz_cat_le (E := E) hc
      exact W.objInit hx hb hown (hts _ hw1) (hts _ hw2) (hts _ hw3) rfl (by rw [hml]; exact hl.2.1) rfl hd (by omega) (by show 2 * 0 + _ + 12 ≤ _; omega) hk'
    · exact h.elim
  · exact h.elim
def pz_acopy (n : Nat) : pz_I := fun Q k u L S M => match S with
  | .int z :: .int dp :: .ref a :: .int sp :: .ref a0 :: S => match pz_nth M a0 with
    | some (.inl (0, n0, f)) => match pz_nth M a with
      | some (.inl (0, n1, g)) => match Nat.ble (pz_cat S) 8 with
        | true => (¬ sp < 0 ∧ ¬ dp < 0 ∧ ¬ z < 0 ∧ sp.toNatClampNeg + z.toNatClampNeg ≤ n0 ∧ dp.toNatClampNeg + z.toNatClampNeg ≤ n1) ∧ k n u L S (pz_set M a (.inl (0, n1, va_cpy f g sp.toNatClampNeg dp.toNatClampNeg z.toNatClampNeg)))
        | false => False
      | _ => False
    | _ => False
  | _ => False
theorem pz_s_acopy {κ : pz_K} {pc i : Nat} (hd : decode (pz_cc κ) pc = .ok (.invokestatic i, 3)) (hdp : 1 ≤ pz_d κ) (hw1 : Cond.methodLink (pz_own κ) i arraycopyName ∈ pz_TB) (hw2 : Cond.native arraycopyName ∈ pz_TB) (hw3 : Cond.static arraycopyName ∈ pz_TB) (hw4 : Cond.initialized "java/lang/System" ∈ pz_TB) : pz_S κ pc (pz_acopy (pc + 3)) := by
  intro φ Q k u L S M h hk E p l e R s m args below meth c H locs ls P C h1 h2 hW hS hl hr
  have hx := C.1
  have hb := C.2.1
  have hml := C.2.2.1
  have hown := C.2.2.2.1
  have hts := C.2.2.2.2.1
  have hfr := C.2.2.2.2.2.2.1
  have hlo := C.2.2.2.2.2.2.2.1
  have hmc := C.2.2.2.2.2.2.2.2.1
  have hms := C.2.2.2.2.2.2.2.2.2.1
  have hK := C.2.2.2.2.2.2.2.2.2.2.1
  have hG := C.2.2.2.2.2.2.2.2.2.2.2.1
  have hB := C.2.2.2.2.2.2.2.2.2.2.2.2.1
  unfold pz_acopy at h
  split at h
  · next z dp a sp a0 S' =>
    split at h
    · next n0 f hq0 =>
      split at h
      · next n1 g hq1 =>
        split at h
        · next hc =>
          obtain ⟨⟨g1, g2, g3, g4, g5⟩, h⟩ := h
          have hc' := pz_cat_le (E := E) hc
          have nn : ∀ z : Int32, ¬ z < 0 → z.toInt = (z.toNatClampNeg : Int) := by
            intro z hz
            have hz0 : (0 : Int) ≤ z.toInt := by
              have := Int32.not_lt.mp hz
              simpa using Int32.le_iff_toInt_le.mp this
            show z.toInt = ((z.toInt.toNat : Nat) : Int)
            omega
          have ha0 := hW.at hq0
          have ha1 := hW.at hq1
          have hc0 : H[E.2.2.1 + a0]? = some (arrV (E.2.1 0) n0 (fun j => .int (f j))) := ha0.1
          have hc1 : H[E.2.2.1 + a]? = some (arrV (E.2.1 0) n1 (fun j => .int (g j))) := ha1.1
          have eS : List.map (pz_v E) (.int z :: .int dp :: .ref a :: .int sp :: .ref a0 :: S') = .int z :: .int dp :: .ref (E.2.2.1 + a) :: .int sp :: .ref (E.2.2.1 + a0) :: List.map (pz_v E) S' := by rw [← ha0.2, ← ha1.2]; rfl
          rw [eS]
          intro T hT X
          obtain ⟨-, k0, hk0, cm0, hkk0⟩ := (hK.2 0 _ rfl).1 n0 (fun j => .int (f j))
          obtain ⟨-, k1, hk1, cm1, hkk1⟩ := (hK.2 0 _ rfl).1 n1 (fun j => .int (g j))
          obtain ⟨vm', X', step⟩ := X.arraycopy hx hown (hts _ hw1) (hts _ hw2) (hts _ hw3) (hts _ hw4) (src := E.2.2.1 + a0) (dst := E.2.2.1 + a) (cs := arrV (E.2.1 0) n0 (fun j => .int (f j))) (cd := arrV (E.2.1 0) n1 (fun j => .int (g j))) (srcPos := sp) (destPos := dp) (n := z) (by rw [hT]; exact hc0) (by rw [hT]; exact hc1)
            (fun _ h => by cases h) (fun _ h => by cases h) (fun h => by cases h) (fun h => by cases h) hk0 hk1 hkk0 hkk1 (by simp [refKind]) g1 g2 g3
            (by rw [nn sp g1, nn z g3, arrV_size]; omega)
            (by rw [nn dp g2, nn z g3, arrV_size]; omega)
            (fun vm₁ _ i hi => by
              have e : (arrV (E.2.1 0) n0 (fun j => .int (f j))).slots.getD (sp.toNatClampNeg + i) .null = .int (f (sp.toNatClampNeg + i)) := by
                rw [Array.getD_eq_getD_getElem?, arrV_read _ _ (by omega)]
                rfl
              refine ⟨?_, ?_⟩
              · rw [e]; rfl
              · rw [e]; exact trivial)
            (g := F0 m pc ls (.int z :: .int dp :: .ref (E.2.2.1 + a) :: .int sp :: .ref (E.2.2.1 + a0) :: List.map (pz_v E) S')) rfl (by rw [hml]; exact hl.2.1) (rest := List.map (pz_v E) S') rfl (by rw [hb]; exact hd) (by omega) (by show 2 * 0 + _ + (5 + 2 + 11) ≤ _; omega)
          have e1 : copied (arrV (E.2.1 0) n0 (fun j => .int (f j))) (arrV (E.2.1 0) n1 (fun j => .int (g j))) sp dp z = arrV (E.2.1 0) n1 (fun j => .int (va_cpy f g sp.toNatClampNeg dp.toNatClampNeg z.toNatClampNeg j)) := va_copied (fun z => .int z) (E.2.1 0) (E.2.1 0) f g g4
          rw [e1] at X' step
          have hlt : E.2.2.1 + a < H.size := (Array.getElem?_eq_some_iff.mp hc1).1
          generalize hnew : arrV (E.2.1 0) n1 (fun j => Value.int (va_cpy f g sp.toNatClampNeg dp.toNatClampNeg z.toNatClampNeg j)) = nc at X' step
          have hheap : ((T.setVm vm').setCell (E.2.2.1 + a) nc).heap = H.setIfInBounds (E.2.2.1 + a) nc := by rw [← hT]; rfl
          have oq : ∀ q : Nat, q ≠ E.2.2.1 + a → (H.setIfInBounds (E.2.2.1 + a) nc)[q]? = H[q]? := fun q hq => by simp [Array.getElem?_setIfInBounds, Ne.symm hq]
          obtain ⟨t, a1, b1⟩ := hk _ _ _ _ _ h E p l e R s m args below meth c _ _ ls P C h1 h2 (hW.set (H' := H.setIfInBounds (E.2.2.1 + a) nc) hq1 (by simp) oq (by
              show (H.setIfInBounds (E.2.2.1 + a) nc)[E.2.2.1 + a]? = some (arrV (E.2.1 0) n1 (fun j => Value.int (va_cpy f g sp.toNatClampNeg dp.toNatClampNeg z.toNatClampNeg j)))
              rw [hnew]
              simp [Array.getElem?_setIfInBounds, hlt])) ⟨by simp; exact hS.1, fun q d1 d2 => by
              rw [oq q (fun e => d2 (by rw [e]; exact Nat.le_add_right _ _))]
              exact hS.2.1 q d1 d2, fun q hq => by
              rcases List.mem_append.mp hq with h | h
              · exact hS.2.2 q h
              · obtain ⟨z, -, hz⟩ := List.mem_map.mp h
                rw [← hz]
                exact Nat.le_add_right _ _⟩ hl hr _ hheap X'
          exact ⟨t, step t a1, b1⟩
        · exact h.elim
      · exact h.elim
    · exact h.elim
  · exact h.elim
end
section
/-! switches -/
def pz_swc (k : pz_k) (u : Nat × Nat) (L : pz_L) (S : List Value) (M : pz_M) (x : Int32) : List (Int32 × Nat) → Nat → Prop
  | [], d => k d u L S M
  | (a, t) :: r, d => (x = a → k t u L S M) ∧ (¬ x = a → pz_swc k u L S M x r d)
def pz_tgt (x : Int32) : List (Int32 × Nat) → Nat → Nat
  | [], d => d
  | (a, t) :: r, d => if x = a then t else pz_tgt x r d
theorem pz_swc_tgt {k : pz_k} {u : Nat × Nat} {L : pz_L} {S : List Value} {M : pz_M} {x : Int32} : ∀ {cs : List (Int32 × Nat)} {d : Nat}, pz_swc k u L S M x cs d → k (pz_tgt x cs d) u L S M
  | [], _, h => h
  | (a, t) :: r, d, h => by
    unfold pz_tgt
    by_cases hx : x = a
    · rw [if_pos hx]; exact h.1 hx
    · rw [if_neg hx]; exact pz_swc_tgt (h.2 hx)
def pz_sw (cs : List (Int32 × Nat)) (d : Nat) : pz_I := fun Q k u L S M => match S with
  | .int x :: S => pz_swc k u L S M x cs d
  | _ => False
theorem pz_off {x : Int32} {pc d : Nat} {dflt : Int} (hdf : (pc : Int) + dflt = (d : Int)) : ∀ cs : List (Int32 × Nat), (pc : Int) + Op.lookupswitch.offset (cs.map (fun q => (q.1.toInt, (q.2 : Int) - (pc : Int)))) dflt x.toInt = ((pz_tgt x cs d : Nat) : Int)
  | [] => by rw [List.map_nil, Op.lookupswitch.offset_nil]; exact hdf
  | (a, t) :: r => by
    rw [List.map_cons, Op.lookupswitch.offset_cons]
    unfold pz_tgt
    by_cases hx : x = a
    · rw [if_pos (by rw [hx]), if_pos hx]; omega
    · rw [if_neg (fun q => hx (Int32.toInt_inj.mp q.symm)), if_neg hx]; exact pz_off hdf r
theorem pz_s_lookup {κ : pz_K} {pc d len : Nat} {dflt : Int} {ps : Array (Int × Int)} {cs : List (Int32 × Nat)} (hd : decode (pz_cc κ) pc = .ok (.lookupswitch dflt ps, len)) (hp : (ps.toList.zip (ps.toList.drop 1)).all (fun (a, next) => a.1 < next.1) = true) (hps : ps.toList = cs.map (fun q => (q.1.toInt, (q.2 : Int) - (pc : Int)))) (hdf : (pc : Int) + dflt = (d : Int)) : pz_S κ pc (pz_sw cs d) := by
  intro φ Q k u L S M h hk E p l e R s m args below meth c H locs ls P C h1 h2 hW hS hl hr
  have hx := C.1
  have hb := C.2.1
  unfold pz_sw at h
  split at h
  · next x S' =>
    exact lv_lookup (x := x) hx hb hd hp rfl (by rw [hps]; exact pz_off hdf cs) (hk _ _ _ _ _ (pz_swc_tgt h) E p l e R s m args below meth c H locs ls P C h1 h2 hW hS hl hr)
  · exact h.elim
def pz_con : Int → List (Int32 × Nat) → Bool
  | _, [] => true
  | lo, (a, _) :: r => decide (a.toInt = lo) && pz_con (lo + 1) r
theorem pz_con_out {x : Int32} {d : Nat} : ∀ (cs : List (Int32 × Nat)) (lo : Int), pz_con lo cs = true → (x.toInt < lo ∨ lo + cs.length ≤ x.toInt) → pz_tgt x cs d = d
  | [], _, _, _ => rfl
  | (a, t) :: r, lo, h, hx => by
    simp only [pz_con, Bool.and_eq_true, decide_eq_true_eq] at h
    simp only [List.length_cons, Int.natCast_add, Int.natCast_one] at hx
    unfold pz_tgt
    rw [if_neg (fun q => by rw [q] at hx; omega)]
    exact pz_con_out r (lo + 1) h.2 (by omega)
theorem pz_con_in {x : Int32} {d : Nat} : ∀ (cs : List (Int32 × Nat)) (lo : Int), pz_con lo cs = true → ¬ x.toInt < lo → ¬ lo + cs.length ≤ x.toInt → ∃ a, cs[(x.toInt - lo).toNat]? = some (a, pz_tgt x cs d)
  | [], lo, _, h1, h2 => by simp only [List.length_nil] at h2; omega
  | (a, t) :: r, lo, h, h1, h2 => by
    simp only [pz_con, Bool.and_eq_true, decide_eq_true_eq] at h
    simp only [List.length_cons, Int.natCast_add, Int.natCast_one] at h2
    unfold pz_tgt
    by_cases hx : x = a
    · refine ⟨a, ?_⟩
      rw [if_pos hx, show (x.toInt - lo).toNat = 0 by rw [hx]; omega]
      rfl
    · have hne : x.toInt ≠ lo := fun q => hx (Int32.toInt_inj.mp (by rw [q, h.1]))
      obtain ⟨b, hb⟩ := pz_con_in (x := x) (d := d) r (lo + 1) h.2 (by omega) (by omega)
      refine ⟨b, ?_⟩
      rw [if_neg hx, show (x.toInt - lo).toNat = (x.toInt - (lo + 1)).toNat + 1 by omega, List.getElem?_cons_succ]
      exact hb
theorem pz_s_table {κ : pz_K} {pc d len : Nat} {dflt lo hi : Int} {offs : Array Int} {cs : List (Int32 × Nat)} (hd : decode (pz_cc κ) pc = .ok (.tableswitch dflt lo hi offs, len)) (hc : pz_con lo cs = true) (ho : offs.toList = cs.map (fun q => (q.2 : Int) - (pc : Int))) (hh : hi = lo + cs.length - 1) (hdf : (pc : Int) + dflt = (d : Int)) : pz_S κ pc (pz_sw cs d) := by
  intro φ Q k u L S M h hk E p l e R s m args below meth c H locs ls P C h1 h2 hW hS hl hr
  have hx := C.1
  have hb := C.2.1
  unfold pz_sw at h
  split at h
  · next x S' =>
    have hk' := hk _ _ _ _ _ (pz_swc_tgt h) E p l e R s m args below meth c H locs ls P C h1 h2 hW hS hl hr
    by_cases hin : x.toInt < lo ∨ hi < x.toInt
    · rw [pz_con_out cs lo hc (by omega)] at hk'
      exact lv_tableOut (x := x) hx hb hd hin hdf hk'
    · obtain ⟨a, ha⟩ := pz_con_in (x := x) (d := d) cs lo hc (by omega) (by omega)
      refine lv_tableIn (x := x) (off := ((pz_tgt x cs d : Nat) : Int) - (pc : Int)) hx hb hd (by omega) (by omega) ?_ (by omega) hk'
      rw [← Array.getElem?_toList, ho, List.getElem?_map, ha]
      rfl
  · exact h.elim
/-! calls -/
def pz_take : Nat → List Value → List Value → Option (List Value × List Value)
  | 0, acc, S => some (acc, S)
  | n + 1, acc, v :: S => pz_take n (v :: acc) S
  | _ + 1, _, [] => none
theorem pz_take_eq : ∀ (n : Nat) (acc S av S' : List Value), pz_take n acc S = some (av, S') → ∃ as : List Value, as.length = n ∧ av = as ++ acc ∧ S = as.reverse ++ S'
  | 0, acc, S, av, S', h => by cases h; exact ⟨[], rfl, rfl, rfl⟩
  | n + 1, acc, v :: S, av, S', h => by
    obtain ⟨as, a1, a2, a3⟩ := pz_take_eq n (v :: acc) S av S' h
    exact ⟨as ++ [v], by simp [a1], by simp [a2], by simp [a3]⟩
  | n + 1, acc, [], av, S', h => by cases h
theorem pz_take_0 {n : Nat} {S av S' : List Value} (h : pz_take n [] S = some (av, S')) : av.length = n ∧ S = av.reverse ++ S' := by
  obtain ⟨as, a1, a2, a3⟩ := pz_take_eq n [] S av S' h
  rw [List.append_nil] at a2
  subst a2
  exact ⟨a1, a3⟩
def pz_ps (v : Option Value) (S : List Value) : List Value := match v with
  | none => S
  | some x => x :: S
def pz_okS (own : String) (i : Nat) (y : MethodName) (cc : ByteArray) (nL : Nat) (rt : Option FieldType) (n : Nat) : Prop := (∀ w ∈ ([.methodLink own i y, .static y, .initialized y.cls, .code y cc nL rt] : List Cond), w ∈ pz_TB) ∧ (y.cls ≠ "java/lang/invoke/MethodHandle" ∧ y.cls ≠ "java/lang/invoke/VarHandle" ∧ (parseMethodDescriptor y.desc).map (fun d => d.parameters.length) = some n ∧ nL ≤ 21)
def pz_okV (own : String) (i : Nat) (y : MethodName) (cc : ByteArray) (nL : Nat) (rt : Option FieldType) (n : Nat) : Prop := (∀ w ∈ ([.methodLink own i y, .instanceMethod y, .selects y.cls y y, .initialized y.cls, .code y cc nL rt] : List Cond), w ∈ pz_TB) ∧ (y.cls ≠ "java/lang/invoke/MethodHandle" ∧ y.cls ≠ "java/lang/invoke/VarHandle" ∧ (parseMethodDescriptor y.desc).map (fun d => d.parameters.length) = some n ∧ nL ≤ 21)
def pz_okI (own : String) (i : Nat) (y : MethodName) (cc : ByteArray) (nL : Nat) (n : Nat) : Prop := (∀ w ∈ ([.methodLink own i y, .instanceMethod y, .initialized y.cls, .code y cc nL none] : List Cond), w ∈ pz_TB) ∧ (y.cls ≠ "java/lang/invoke/MethodHandle" ∧ y.cls ≠ "java/lang/invoke/VarHandle" ∧ (parseMethodDescriptor y.desc).map (fun d => d.parameters.length) = some n ∧ nL ≤ 21) ∧ y.name = "<init>"
/-- the same over a nest mate's private member -/
def pz_okSN (own : String) (i : Nat) (y : MethodName) (cc : ByteArray) (nL : Nat) (rt : Option FieldType) (n : Nat) (host : String) : Prop := (∀ w ∈ ([.static y, .initialized y.cls, .code y cc nL rt] : List Cond), w ∈ pz_TB) ∧ (y.cls ≠ "java/lang/invoke/MethodHandle" ∧ y.cls ≠ "java/lang/invoke/VarHandle" ∧ (parseMethodDescriptor y.desc).map (fun d => d.parameters.length) = some n ∧ nL ≤ 21) ∧ Cond.methodLinkNest own i y host ∈ lw_tbl
def pz_okIN (own : String) (i : Nat) (y : MethodName) (cc : ByteArray) (nL : Nat) (n : Nat) (host : String) : Prop := (∀ w ∈ ([.instanceMethod y, .initialized y.cls, .code y cc nL none] : List Cond), w ∈ pz_TB) ∧ (y.cls ≠ "java/lang/invoke/MethodHandle" ∧ y.cls ≠ "java/lang/invoke/VarHandle" ∧ (parseMethodDescriptor y.desc).map (fun d => d.parameters.length) = some n ∧ nL ≤ 21) ∧ y.name = "<init>" ∧ Cond.methodLinkNest own i y host ∈ lw_tbl
theorem pz_all {ws : List Cond} (h : ws.all (fun w => decide (w ∈ lw_tbl) && goodWord w) = true) : ∀ w ∈ ws, w ∈ pz_TB := fun w hw => pz_in (List.all_eq_true.mp h w hw)
theorem pz_after {φ : pz_V → State → Prop} {κ : pz_K} {Q : pz_Q} {k : pz_k} {u : Nat × Nat} {L : pz_L} {S' : List Value} {E : pz_V} {p : Program} {l : Launch} {e : Env} {R : Room} {s : State} {m : MethodId} {args : Array Value} {below : List Frame} {meth : Method} {c : Code} {H : Heap} {locs : List Loc} {ls : Array Slot} {P : State → Prop} {pc mc' ms' : Nat} {a : Array Value} {st0 : List Value}
    (C : pz_Cx φ κ E p R s m args meth c) (h1 : u.1 + mc' ≤ pz_mc κ) (h2 : u.2 + ms' ≤ pz_ms κ) (hS : va_S (pz_A E) s.heap H locs) (hl : pz_ls E L (pz_nL κ) ls)
    (hr : ∀ (pc' : Nat) (H' : Heap) (locs' : List Loc) (ls' : Array Slot) (M' : pz_M) (v : Option Value) (ins : Instr), decode (pz_cc κ) pc' = .ok (ins, 1) → pz_rv (pz_rt κ) ins v → Q v M' → pz_W E M' H' → va_S (pz_A E) s.heap H' locs' → W p l e R s m args below meth c H' locs' (pz_mc κ) (pz_ms κ) P (F0 m pc' ls' ((v.map (pz_v E)).toList)))
    (hrun : va_Run p l e R s m args below meth c H locs u.1 u.2 mc' ms' (F0 m pc ls st0) (S'.map (pz_v E)) (pz_Qc E (fun v M' => k (pc + 3) (u.1 + mc', u.2 + ms') L (pz_ps v S') M') a) (pz_A E))
    (hk : ∀ (pc' : Nat) (u' : Nat × Nat) (L' : pz_L) (S' : List Value) (M' : pz_M), k pc' u' L' S' M' → pz_T φ κ Q pc' u' L' S' M') : W p l e R s m args below meth c H locs u.1 u.2 P (F0 m pc ls st0) := by
  intro T hT X
  obtain ⟨v, st₀, t, T', Lc, h0, X', hL, e1, e2, ⟨v0, M', hv, hq, hW', hz, hkeep⟩, st⟩ := hrun T hT X
  have hB := C.2.2.2.2.2.2.2.2.2.2.2.2.1
  rw [h0] at hz hkeep
  obtain ⟨t2, a1, b1⟩ := hk _ _ _ _ _ hq E p l e R s m args below meth c T'.heap (locs ++ Lc) ls P C h1 h2 (by rw [e1]; exact hW') ⟨Nat.le_trans hS.1 (by rw [e1]; exact hz), fun q d1 d2 => by
      rw [e1, hkeep q (Nat.not_le.mp d2)]
      exact hS.2.1 q d1 d2, fun q hq => by
      rcases List.mem_append.mp hq with h | h
      · exact hS.2.2 q h
      · exact hL q h⟩ hl hr T' rfl X'
  refine ⟨t2, st t2 ?_, b1⟩
  have hv : v = v0.map (pz_v E) := Outcome.returned.inj hv
  subst hv
  cases v0 with
  | none => exact a1
  | some x => exact a1
theorem pz_pre {φ : pz_V → State → Prop} {κ : pz_K} {E : pz_V} {p : Program} {R : Room} {s : State} {m : MethodId} {args : Array Value} {meth : Method} {c : Code} {H : Heap} {locs : List Loc} {M : pz_M} {av : List Value} (C : pz_Cx φ κ E p R s m args meth c) (hW : pz_W E M H) (hS : va_S (pz_A E) s.heap H locs) : PreS s H (pz_Pc E av M) (av.map (pz_v E)) := by
  have hK := C.2.2.2.2.2.2.2.2.2.2.1
  have hG := C.2.2.2.2.2.2.2.2.2.2.2.1
  have hB := C.2.2.2.2.2.2.2.2.2.2.2.2.1
  refine ⟨pz_blind E av M, fun U hU hWm => ⟨rfl, by rw [hU]; exact hW, va_K.moved hWm.alike hK, ?_⟩⟩
  rw [hU]
  exact (hG.warm hWm).kept (fun q hq => hS.2.1 q (by omega) (Nat.not_le.mpr hq))
/-- a static method that makes nothing -/
def pz_cs (y : MethodName) (κ' : pz_K) (na n : Nat) : pz_I := fun Q k u L S M => match pz_take na [] S with
  | some (av, S') => match Nat.ble (pz_cat S') 8 with
    | true => pz_C y κ' av M (fun v M' => k n u L (pz_ps v S') M')
    | false => False
  | none => False
theorem pz_s_cs {κ κ' : pz_K} {pc i na : Nat} {y : MethodName} (hd : decode (pz_cc κ) pc = .ok (.invokestatic i, 3)) (hok : pz_okS (pz_own κ) i y (pz_cc κ') (pz_nL κ') (pz_rt κ') na) (hdp : pz_d κ' + 1 ≤ pz_d κ) (h0 : pz_mc κ' = 0 ∧ pz_ms κ' = 0) : pz_S κ pc (pz_cs y κ' na (pc + 3)) := by
  intro φ Q k u L S M h hk E p l e R s m args below meth c H locs ls P C h1 h2 hW hS hl hr
  unfold pz_cs at h
  split at h
  · next av S' ht =>
    split at h
    · next hc =>
      obtain ⟨t1, t2⟩ := pz_take_0 ht
      subst t2
      obtain ⟨hall, o1, o2, o3, o4⟩ := hok
      obtain ⟨m0, s0⟩ := h0
      have hfr := C.2.2.2.2.2.2.1
      have hlo := C.2.2.2.2.2.2.2.1
      have hmc := C.2.2.2.2.2.2.2.2.1
      have hms := C.2.2.2.2.2.2.2.2.2.1
      have hGI : GoodIn pz_TB (va_wsS (pz_own κ) i y (Cond.code y (pz_cc κ') (pz_nL κ') (pz_rt κ') :: pz_TB)) := by
        intro w hw
        rcases List.mem_append.mp hw with hw | hw
        · refine pz_good w (hall w ?_)
          simp only [List.mem_cons, List.not_mem_nil, or_false] at hw ⊢
          rcases hw with hw | hw | hw
          · exact Or.inl hw
          · exact Or.inr (Or.inl hw)
          · exact Or.inr (Or.inr (Or.inl hw))
        · exact pz_goodC (hall _ (by simp)) w hw
      have hM := h l E
      rw [m0, s0] at hM
      refine pz_after (mc' := 0) (ms' := 0) C h1 h2 hS hl hr (va_runS (As := av.map (pz_v E)) ⟨C.1, C.2.1, C.2.2.1, C.2.2.2.1, C.2.2.2.2.1⟩ hM (va_cwS na C.2.2.2.2.1 hGI rfl m0 s0 ⟨o1, o2, o3⟩ ⟨by show pz_d κ' + 1 ≤ _; omega, by show 8 + (pz_nL κ' + 11) + 40 * pz_d κ' ≤ _; omega⟩) (pz_pre C hW hS) rfl (by rw [List.length_map]; exact t1) hl.2.1 (by rw [List.map_append, List.map_reverse]) (by show 2 * 0 + _ ≤ 8; have := pz_cat_le (E := E) hc; omega) hd ⟨by rw [hmc]; exact h1, by rw [hms]; exact h2⟩) hk
    · exact h.elim
  · exact h.elim
theorem pz_s_csN {κ κ' : pz_K} {pc i na : Nat} {y : MethodName} {host : String} (hd : decode (pz_cc κ) pc = .ok (.invokestatic i, 3)) (hok : pz_okSN (pz_own κ) i y (pz_cc κ') (pz_nL κ') (pz_rt κ') na host) (hdp : pz_d κ' + 1 ≤ pz_d κ) (h0 : pz_mc κ' = 0 ∧ pz_ms κ' = 0) : pz_S κ pc (pz_cs y κ' na (pc + 3)) := by
  intro φ Q k u L S M h hk E p l e R s m args below meth c H locs ls P C h1 h2 hW hS hl hr
  unfold pz_cs at h
  split at h
  · next av S' ht =>
    split at h
    · next hc =>
      obtain ⟨t1, t2⟩ := pz_take_0 ht
      subst t2
      obtain ⟨hall, ⟨o1, o2, o3, o4⟩, o5⟩ := hok
      obtain ⟨m0, s0⟩ := h0
      have hfr := C.2.2.2.2.2.2.1
      have hlo := C.2.2.2.2.2.2.2.1
      have hmc := C.2.2.2.2.2.2.2.2.1
      have hms := C.2.2.2.2.2.2.2.2.2.1
      have hts := C.2.2.2.2.1
      have hM := h l E
      rw [m0, s0] at hM
      have hN := C.2.2.2.2.2.2.2.2.2.2.2.1.2.1 _ (List.mem_filter.mpr ⟨o5, rfl⟩)
      refine pz_after (mc' := 0) (ms' := 0) C h1 h2 hS hl hr (va_runSN (As := av.map (pz_v E)) ⟨C.1, C.2.1, C.2.2.1, C.2.2.2.1, C.2.2.2.2.1⟩ hM ⟨va_cnB na hts (pz_goodC (hall _ (by simp))) rfl m0 s0 hN (hts _ (hall _ (by simp))) ⟨o1, o2, o3⟩ ⟨by show pz_d κ' + 1 ≤ _; omega, by show 8 + (pz_nL κ' + 11) + 40 * pz_d κ' ≤ _; omega⟩, hts _ (hall _ (by simp)), trivial⟩ (pz_pre C hW hS) rfl (by rw [List.length_map]; exact t1) hl.2.1 (by rw [List.map_append, List.map_reverse]) (by show 2 * 0 + _ ≤ 8; have := pz_cat_le (E := E) hc; omega) hd ⟨by rw [hmc]; exact h1, by rw [hms]; exact h2⟩) hk
    · exact h.elim
  · exact h.elim
/-- an object's method; it may make cells -/
def pz_cv (mc ms : Nat) (y : MethodName) (κ' : pz_K) (ci na n : Nat) : pz_I := fun Q k u L S M => match pz_take na [] S with
  | some (.ref r :: av, S') => match pz_nth M r with
    | some (.inr (.inr (c, _))) => match c == ci with
      | true => match Nat.ble (pz_cat S') 8 with
        | true => (u.1 + pz_mc κ' ≤ mc ∧ u.2 + pz_ms κ' ≤ ms) ∧ pz_C y κ' (.ref r :: av) M (fun v M' => k n (u.1 + pz_mc κ', u.2 + pz_ms κ') L (pz_ps v S') M')
        | false => False
      | false => False
    | _ => False
  | _ => False
/-- an object's method that makes nothing -/
def pz_cv0 (y : MethodName) (κ' : pz_K) (ci na n : Nat) : pz_I := fun Q k u L S M => match pz_take na [] S with
  | some (.ref r :: av, S') => match pz_nth M r with
    | some (.inr (.inr (c, _))) => match c == ci with
      | true => match Nat.ble (pz_cat S') 8 with
        | true => pz_C y κ' (.ref r :: av) M (fun v M' => k n u L (pz_ps v S') M')
        | false => False
      | false => False
    | _ => False
  | _ => False
theorem pz_s_cv {κ κ' : pz_K} {pc i ci na : Nat} {y : MethodName} {q0 : vw_C} (hd : decode (pz_cc κ) pc = .ok (.invokevirtual i, 3)) (hok : pz_okV (pz_own κ) i y (pz_cc κ') (pz_nL κ') (pz_rt κ') na) (hc0 : pz_cls[ci]? = some q0) (hq0 : q0.1 = y.cls) (hdp : pz_d κ' + 1 ≤ pz_d κ) : pz_S κ pc (pz_cv (pz_mc κ) (pz_ms κ) y κ' ci (na + 1) (pc + 3)) := by
  intro φ Q k u L S M h hk E p l e R s m args below meth c H locs ls P C h1 h2 hW hS hl hr
  unfold pz_cv at h
  split at h
  · next r av S' ht =>
    split at h
    · next c9 fs hq =>
      split at h
      · next hci =>
        have hci : c9 = ci := by simpa using hci
        subst hci
        split at h
        · next hc =>
          obtain ⟨⟨b1, b2⟩, h⟩ := h
          obtain ⟨t1, t2⟩ := pz_take_0 ht
          subst t2
          obtain ⟨hall, o1, o2, o3, o4⟩ := hok
          have hfr := C.2.2.2.2.2.2.1
          have hlo := C.2.2.2.2.2.2.2.1
          have hmc := C.2.2.2.2.2.2.2.2.1
          have hms := C.2.2.2.2.2.2.2.2.2.1
          have hK := C.2.2.2.2.2.2.2.2.2.2.1
          have hGI : GoodIn pz_TB (wsV (pz_own κ) i y.cls y (Cond.code y (pz_cc κ') (pz_nL κ') (pz_rt κ') :: pz_TB)) := by
            intro w hw
            rcases List.mem_append.mp hw with hw | hw
            · refine pz_good w (hall w ?_)
              simp only [List.mem_cons, List.not_mem_nil, or_false] at hw ⊢
              rcases hw with hw | hw | hw | hw
              · exact Or.inl hw
              · exact Or.inr (Or.inl hw)
              · exact Or.inr (Or.inr (Or.inl hw))
              · exact Or.inr (Or.inr (Or.inr (Or.inl hw)))
            · exact pz_goodC (hall _ (by simp)) w hw
          have hM := h l E
          have ha := hW.at hq
          have hx1 : (Value.ref r :: av).map (pz_v E) = .ref (E.2.2.1 + r) :: av.map (pz_v E) := by rw [← ha.2]; rfl
          have hpre := pz_pre (av := .ref r :: av) C hW hS
          have hrec := va_recv hK (hW.one hq) hc0 (q0 := 0) (ci := c9) rfl
          rw [hx1] at hpre
          rw [hq0] at hrec
          refine pz_after C b1 b2 hS hl hr (va_runV (As := av.map (pz_v E)) (b := E.2.2.1 + r) ⟨C.1, C.2.1, C.2.2.1, C.2.2.2.1, C.2.2.2.2.1⟩ hM (cwV na C.2.2.2.2.1 hGI rfl rfl rfl ⟨rfl, o1, o2, o3⟩ ⟨by show pz_d κ' + 1 ≤ _; omega, by show 8 + (pz_nL κ' + 11) + 40 * pz_d κ' ≤ _; omega⟩) ⟨hpre.1, hrec, hpre.2⟩ rfl (by rw [List.length_map]; rw [List.length_cons] at t1; omega) hl.2.1 (by
            show List.map (pz_v E) ((Value.ref r :: av).reverse ++ S') = _
            rw [List.map_append, List.map_reverse, hx1, List.reverse_cons, List.append_assoc]; rfl) (by show 2 * 0 + _ ≤ 8; have := pz_cat_le (E := E) hc; omega) hd ⟨by rw [hmc]; exact b1, by rw [hms]; exact b2⟩) hk
        · exact h.elim
      · exact h.elim
    · exact h.elim
  · exact h.elim
theorem pz_s_cv0 {κ κ' : pz_K} {pc i ci na : Nat} {y : MethodName} {q0 : vw_C} (hd : decode (pz_cc κ) pc = .ok (.invokevirtual i, 3)) (hok : pz_okV (pz_own κ) i y (pz_cc κ') (pz_nL κ') (pz_rt κ') na) (hc0 : pz_cls[ci]? = some q0) (hq0 : q0.1 = y.cls) (hdp : pz_d κ' + 1 ≤ pz_d κ) (h0 : pz_mc κ' = 0 ∧ pz_ms κ' = 0) : pz_S κ pc (pz_cv0 y κ' ci (na + 1) (pc + 3)) := by
  intro φ Q k u L S M h hk E p l e R s m args below meth c H locs ls P C h1 h2 hW hS hl hr
  refine pz_s_cv hd hok hc0 hq0 hdp φ Q k u L S M ?_ hk E p l e R s m args below meth c H locs ls P C h1 h2 hW hS hl hr
  unfold pz_cv0 at h
  unfold pz_cv
  split at h
  · next r av S' ht =>
    split at h
    · next c9 fs hq =>
      split at h
      · next hci =>
        split at h
        · next hc =>
          rw [h0.1, h0.2]
          exact ⟨⟨h1, h2⟩, h⟩
        · exact h.elim
      · exact h.elim
    · exact h.elim
  · exact h.elim
/-- a constructor -/
def pz_ci (mc ms : Nat) (y : MethodName) (κ' : pz_K) (na n : Nat) : pz_I := fun Q k u L S M => match pz_take na [] S with
  | some (.ref r :: av, S') => match Nat.blt r 1000000 with
    | true => match Nat.ble (pz_cat S') 8 with
      | true => (u.1 + pz_mc κ' ≤ mc ∧ u.2 + pz_ms κ' ≤ ms) ∧ pz_C y κ' (.ref r :: av) M (fun v M' => k n (u.1 + pz_mc κ', u.2 + pz_ms κ') L (pz_ps v S') M')
      | false => False
    | false => False
  | _ => False
theorem pz_s_ci {κ κ' : pz_K} {pc i na : Nat} {y : MethodName} (hd : decode (pz_cc κ) pc = .ok (.invokespecial i, 3)) (hrt : pz_rt κ' = none) (hok : pz_okI (pz_own κ) i y (pz_cc κ') (pz_nL κ') na) (hdp : pz_d κ' + 1 ≤ pz_d κ) : pz_S κ pc (pz_ci (pz_mc κ) (pz_ms κ) y κ' (na + 1) (pc + 3)) := by
  intro φ Q k u L S M h hk E p l e R s m args below meth c H locs ls P C h1 h2 hW hS hl hr
  unfold pz_ci at h
  split at h
  · next r av S' ht =>
    split at h
    · next hblt =>
      split at h
      · next hc =>
        obtain ⟨⟨b1, b2⟩, h⟩ := h
        obtain ⟨t1, t2⟩ := pz_take_0 ht
        subst t2
        obtain ⟨hall, ⟨o1, o2, o3, o4⟩, o5⟩ := hok
        have hfr := C.2.2.2.2.2.2.1
        have hlo := C.2.2.2.2.2.2.2.1
        have hmc := C.2.2.2.2.2.2.2.2.1
        have hms := C.2.2.2.2.2.2.2.2.2.1
        have hts := C.2.2.2.2.1
        have hM := h l E
        rw [hrt] at hM
        have hpre := pz_pre (av := .ref r :: av) C hW hS
        refine pz_after C b1 b2 hS hl hr (va_runI (As := av.map (pz_v E)) (b := pz_x E r) ⟨C.1, C.2.1, C.2.2.1, C.2.2.2.1, C.2.2.2.2.1⟩ hM (cwI na hts (pz_goodC (hall _ (by simp))) rfl rfl rfl (hts _ (hall _ (by simp))) (hts _ (hall _ (by simp))) (hts _ (hall _ (by simp))) o5 ⟨o1, o2, o3⟩ ⟨by show pz_d κ' + 1 ≤ _; omega, by show 8 + (pz_nL κ' + 11) + 40 * pz_d κ' ≤ _; omega⟩) hpre rfl (by rw [List.length_map]; rw [List.length_cons] at t1; omega) hl.2.1 (by
          show List.map (pz_v E) ((Value.ref r :: av).reverse ++ S') = _
          rw [List.map_append, List.map_reverse, List.map_cons, List.reverse_cons, List.append_assoc]; rfl) (by show 2 * 0 + _ ≤ 8; have := pz_cat_le (E := E) hc; omega) hd ⟨by rw [hmc]; exact b1, by rw [hms]; exact b2⟩) hk
      · exact h.elim
    · exact h.elim
  · exact h.elim
theorem pz_s_ciN {κ κ' : pz_K} {pc i na : Nat} {y : MethodName} {host : String} (hd : decode (pz_cc κ) pc = .ok (.invokespecial i, 3)) (hrt : pz_rt κ' = none) (hok : pz_okIN (pz_own κ) i y (pz_cc κ') (pz_nL κ') na host) (hdp : pz_d κ' + 1 ≤ pz_d κ) : pz_S κ pc (pz_ci (pz_mc κ) (pz_ms κ) y κ' (na + 1) (pc + 3)) := by
  intro φ Q k u L S M h hk E p l e R s m args below meth c H locs ls P C h1 h2 hW hS hl hr
  unfold pz_ci at h
  split at h
  · next r av S' ht =>
    split at h
    · next hblt =>
      split at h
      · next hc =>
        obtain ⟨⟨b1, b2⟩, h⟩ := h
        obtain ⟨t1, t2⟩ := pz_take_0 ht
        subst t2
        obtain ⟨hall, ⟨o1, o2, o3, o4⟩, o5, o6⟩ := hok
        have hfr := C.2.2.2.2.2.2.1
        have hlo := C.2.2.2.2.2.2.2.1
        have hmc := C.2.2.2.2.2.2.2.2.1
        have hms := C.2.2.2.2.2.2.2.2.2.1
        have hts := C.2.2.2.2.1
        have hM := h l E
        rw [hrt] at hM
        have hpre := pz_pre (av := .ref r :: av) C hW hS
        have hN := C.2.2.2.2.2.2.2.2.2.2.2.1.2.1 _ (List.mem_filter.mpr ⟨o6, rfl⟩)
        refine pz_after C b1 b2 hS hl hr (va_runIN (As := av.map (pz_v E)) (b := pz_x E r) ⟨C.1, C.2.1, C.2.2.1, C.2.2.2.1, C.2.2.2.2.1⟩ hM ⟨va_cnB na hts (pz_goodC (hall _ (by simp))) rfl rfl rfl hN (hts _ (hall _ (by simp))) ⟨o1, o2, o3⟩ ⟨by show pz_d κ' + 1 ≤ _; omega, by show 8 + (pz_nL κ' + 11) + 40 * pz_d κ' ≤ _; omega⟩, o5, hts _ (hall _ (by simp))⟩ hpre rfl (by rw [List.length_map]; rw [List.length_cons] at t1; omega) hl.2.1 (by
          show List.map (pz_v E) ((Value.ref r :: av).reverse ++ S') = _
          rw [List.map_append, List.map_reverse, List.map_cons, List.reverse_cons, List.append_assoc]; rfl) (by show 2 * 0 + _ ≤ 8; have := pz_cat_le (E := E) hc; omega) hd ⟨by rw [hmc]; exact b1, by rw [hms]; exact b2⟩) hk
      · exact h.elim
    · exact h.elim
  · exact h.elim
/-! the chain -/
def pz_look : List (Nat × pz_I) → Nat → pz_I
  | [], _ => fun _ _ _ _ _ _ => False
  | (q, x) :: r, pc => match Nat.beq q pc with
    | true => x
    | false => pz_look r pc
def pz_mem (pc : Nat) : List Nat → Bool
  | [] => false
  | q :: r => match Nat.beq q pc with
    | true => true
    | false => pz_mem pc r
def pz_wp (I : List (Nat × pz_I)) (φ : pz_V → State → Prop) (κ : pz_K) (cs : List Nat) (Q : pz_Q) : Nat → Nat → Nat × Nat → pz_L → List Value → pz_M → Prop
  | 0, pc, u, L, S, M => pz_T φ κ Q pc u L S M
  | n + 1, pc, u, L, S, M => pz_look I pc Q (fun pc' u' L' S' M' => match pz_mem pc' cs with
    | true => pz_T φ κ Q pc' u' L' S' M'
    | false => pz_wp I φ κ cs Q n pc' u' L' S' M') u L S M
def pz_Sp (φ : pz_V → State → Prop) (κ : pz_K) (pc : Nat) (x : pz_I) : Prop := ∀ (Q : pz_Q) (k : pz_k) (u : Nat × Nat) (L : pz_L) (S : List Value) (M : pz_M), x Q k u L S M → (∀ (pc' : Nat) (u' : Nat × Nat) (L' : pz_L) (S' : List Value) (M' : pz_M), k pc' u' L' S' M' → pz_T φ κ Q pc' u' L' S' M') → pz_T φ κ Q pc u L S M
theorem pz_look_ok {φ : pz_V → State → Prop} {κ : pz_K} : ∀ {I : List (Nat × pz_I)}, (∀ q ∈ I, pz_Sp φ κ q.1 q.2) → ∀ pc, pz_Sp φ κ pc (pz_look I pc)
  | [], _, pc => fun _ _ _ _ _ _ h => h.elim
  | (q, x) :: r, h, pc => by
    unfold pz_look
    split
    · next hq =>
      have hq : q = pc := Nat.eq_of_beq_eq_true hq
      subst hq
      exact h (q, x) List.mem_cons_self
    · exact pz_look_ok (fun z hz => h z (List.mem_cons_of_mem _ hz)) pc
theorem pz_wp_okp {φ : pz_V → State → Prop} {I : List (Nat × pz_I)} {κ : pz_K} (hI : ∀ q ∈ I, pz_Sp φ κ q.1 q.2) (cs : List Nat) {Q : pz_Q} : ∀ (n : Nat) {pc : Nat} {u : Nat × Nat} {L : pz_L} {S : List Value} {M : pz_M}, pz_wp I φ κ cs Q n pc u L S M → pz_T φ κ Q pc u L S M
  | 0, _, _, _, _, _, h => h
  | n + 1, pc, u, L, S, M, h => by
    refine pz_look_ok hI pc Q _ u L S M h (fun pc' u' L' S' M' hk => ?_)
    split at hk
    · exact hk
    · exact pz_wp_okp hI cs n hk
theorem pz_wp_ok {φ : pz_V → State → Prop} {I : List (Nat × pz_I)} {κ : pz_K} (hI : ∀ q ∈ I, pz_S κ q.1 q.2) (cs : List Nat) {Q : pz_Q} (n : Nat) {pc : Nat} {u : Nat × Nat} {L : pz_L} {S : List Value} {M : pz_M} (h : pz_wp I φ κ cs Q n pc u L S M) : pz_T φ κ Q pc u L S M := pz_wp_okp (fun q hq => hI q hq φ) cs n h
/-- rows of numbers that agree as far as they go are one row -/
def pz_eq1 (a b : pz_E) : Prop := match a, b with
  | .inl x, .inl y => x.1 = y.1 ∧ x.2.1 = y.2.1 ∧ ∀ j, j < x.2.1 → x.2.2 j = y.2.2 j
  | a, b => a = b
def pz_eqv : pz_M → pz_M → Prop
  | [], [] => True
  | a :: l, b :: r => pz_eq1 a b ∧ pz_eqv l r
  | _, _ => False
theorem pz_eq1_at {E : pz_V} {a b : pz_E} {r : Nat} {H : Heap} (h : pz_eq1 a b) (hv : va_at E.1 pz_cls (r, pz_e E a) H) : va_at E.1 pz_cls (r, pz_e E b) H := by
  unfold pz_eq1 at h
  split at h
  · next x y =>
    obtain ⟨t, n, f⟩ := x
    obtain ⟨t', n', f'⟩ := y
    obtain ⟨e1, e2, e3⟩ := h
    dsimp only at e1 e2 e3
    subst e1; subst e2
    have hv : H[r]? = some (arrV (E.2.1 t) n (fun j => .int (f j))) := hv
    show H[r]? = some (arrV (E.2.1 t) n (fun j => .int (f' j)))
    rw [hv]
    have : (Array.ofFn (n := n) fun j => Value.int (f j.val)) = Array.ofFn (n := n) fun j => Value.int (f' j.val) := by
      congr 1
      funext j
      rw [e3 j.val j.isLt]
    unfold arrV
    rw [this]
  · rw [← h]; exact hv
theorem pz_eqv_len : ∀ {M M' : pz_M}, pz_eqv M M' → M.length = M'.length
  | [], [], _ => rfl
  | _ :: _, _ :: _, h => by simp [pz_eqv_len h.2]
theorem pz_eqv_get : ∀ {M M' : pz_M}, pz_eqv M M' → ∀ (i : Nat) (c : pz_E), M'[i]? = some c → ∃ c', M[i]? = some c' ∧ pz_eq1 c' c
  | [], [], _, i, c, hi => by simp at hi
  | a :: l, b :: r, h, 0, c, hi => by
    cases hi
    exact ⟨a, rfl, h.1⟩
  | a :: l, b :: r, h, i + 1, c, hi => by
    rw [List.getElem?_cons_succ] at hi
    obtain ⟨c', h1, h2⟩ := pz_eqv_get h.2 i c hi
    exact ⟨c', by rw [List.getElem?_cons_succ]; exact h1, h2⟩
theorem pz_W_eqv {E : pz_V} {M M' : pz_M} {H : Heap} (he : pz_eqv M M') (h : pz_W E M H) : pz_W E M' H := by
  have hl := pz_eqv_len he
  refine ⟨by rw [← hl]; exact h.1, by rw [← hl]; exact h.2.1, fun i c hi => ?_⟩
  obtain ⟨c', h1, h2⟩ := pz_eqv_get he i c hi
  exact pz_eq1_at h2 (h.2.2 i c' h1)
theorem pz_T_eqv {φ : pz_V → State → Prop} {κ : pz_K} {Q : pz_Q} {pc : Nat} {u : Nat × Nat} {L : pz_L} {S : List Value} {M M' : pz_M} (he : pz_eqv M M') (h : pz_T φ κ Q pc u L S M') : pz_T φ κ Q pc u L S M := by
  intro E p l e R s m args below meth c H locs ls P C h1 h2 hW hS hl hr
  exact h E p l e R s m args below meth c H locs ls P C h1 h2 (pz_W_eqv he hW) hS hl hr
end
section
/-! lengths of rows; texts outside; the script -/
def pz_alen (n : Nat) : pz_I := fun Q k u L S M => match S with
  | .ref r :: S => match pz_nth M r with
    | some (.inl (0, N, _)) => k n u L (.int (nI N) :: S) M
    | _ => False
  | _ => False
theorem pz_s_alen {κ : pz_K} {pc : Nat} (hd : decode (pz_cc κ) pc = .ok (.arraylength, 1)) : pz_S κ pc (pz_alen (pc + 1)) := by
  intro φ Q k u L S M h hk E p l e R s m args below meth c H locs ls P C h1 h2 hW hS hl hr
  have hK := C.2.2.2.2.2.2.2.2.2.2.1
  unfold pz_alen at h
  split at h
  · next r S' =>
    split at h
    · next N f hq =>
      have hk' := hk _ _ _ _ _ h E p l e R s m args below meth c H locs ls P C h1 h2 hW hS hl hr
      have ha := hW.at hq
      have hp := hW.one hq
      have eS : List.map (pz_v E) (.ref r :: S') = .ref (E.2.2.1 + r) :: List.map (pz_v E) S' := by rw [← ha.2]; rfl
      rw [eS]
      exact va_alen (D := E.1) (cl := pz_cls) (tys := pz_tys E) (x := (N, .inl f)) (ty := .int) (v := nI N) C.1 C.2.1 hK hp 0 0 rfl rfl rfl hd hk'
    · exact h.elim
  · exact h.elim
def pz_sn (r : Nat) : Option Nat := match Nat.ble 1000010 r && Nat.blt r 1000016 with
  | true => some (r - 1000010)
  | false => none
def pz_bn (r : Nat) : Option Nat := match Nat.ble 1000020 r && Nat.blt r 1000026 with
  | true => some (r - 1000020)
  | false => none
theorem pz_sn_ok {r i : Nat} (h : pz_sn r = some i) : i < 6 ∧ r = 1000010 + i := by
  unfold pz_sn at h
  split at h
  · next hb =>
    simp only [Bool.and_eq_true] at hb
    have h1 := Nat.le_of_ble_eq_true hb.1
    have h2 : r < 1000016 := Nat.le_of_ble_eq_true hb.2
    have h : r - 1000010 = i := Option.some.inj h
    omega
  · cases h
theorem pz_bn_ok {r i : Nat} (h : pz_bn r = some i) : i < 6 ∧ r = 1000020 + i := by
  unfold pz_bn at h
  split at h
  · next hb =>
    simp only [Bool.and_eq_true] at hb
    have h1 := Nat.le_of_ble_eq_true hb.1
    have h2 : r < 1000026 := Nat.le_of_ble_eq_true hb.2
    have h : r - 1000020 = i := Option.some.inj h
    omega
  · cases h
def pz_ldS (i n : Nat) : pz_I := fun Q k u L S M => k n u L (.ref (1000010 + i) :: S) M
theorem pz_vout {E : pz_V} {i : Nat} (h : 1000000 ≤ i) : pz_v E (.ref i) = .ref (E.2.2.2 i) := by
  show Value.ref (pz_x E i) = _
  rw [pz_x_out (by omega)]
theorem pz_s_ldS {κ : pz_K} {pc ix i : Nat} (hd : decode (pz_cc κ) pc = .ok (.ldc ix, 2)) (hi : i < 6) (hix : (pz_txt i).1 = ix) (ho : pz_own κ = RX3) : pz_S κ pc (pz_ldS i (pc + 2)) := by
  intro φ Q k u L S M h hk E p l e R s m args below meth c H locs ls P C h1 h2 hW hS hl hr
  have hk' := hk _ _ _ _ _ h E p l e R s m args below meth c H locs ls P C h1 h2 hW hS hl hr
  have hG := C.2.2.2.2.2.2.2.2.2.2.2.1
  have hown := C.2.2.2.1
  rw [ho] at hown
  rw [List.map_cons, pz_vout (by omega)] at hk'
  subst hix
  exact va_ldcS C.1 C.2.1 hown (hG.2.2.2.2.2.2 i hi) hd hk'
def pz_gsv (n : Nat) : pz_I := fun Q k u L S M => match S with
  | .ref r :: S => match pz_sn r with
    | some i => k n u L (.ref (1000020 + i) :: S) M
    | none => False
  | _ => False
theorem pz_s_gsv {κ : pz_K} {pc ix : Nat} (hd : decode (pz_cc κ) pc = .ok (.getfield ix, 3)) (hw : Cond.fieldLink (pz_own κ) ix "java/lang/String" "value" "[B" ∈ pz_TB) : pz_S κ pc (pz_gsv (pc + 3)) := by
  intro φ Q k u L S M h hk E p l e R s m args below meth c H locs ls P C h1 h2 hW hS hl hr
  have hG := C.2.2.2.2.2.2.2.2.2.2.2.1
  unfold pz_gsv at h
  split at h
  · next r S' =>
    split at h
    · next i hq =>
      obtain ⟨hi, rfl⟩ := pz_sn_ok hq
      have hk' := hk _ _ _ _ _ h E p l e R s m args below meth c H locs ls P C h1 h2 hW hS hl hr
      rw [List.map_cons, pz_vout (by omega)] at hk'
      rw [List.map_cons, pz_vout (by omega)]
      exact vk_getf C.1 C.2.1 (hG.2.2.2.2.2.1.1 i hi).2.2.1 hS C.2.2.2.1 (C.2.2.2.2.1 _ hw) (fun _ h => h) hd hk'
    · exact h.elim
  · exact h.elim
def pz_gsc (n : Nat) : pz_I := fun Q k u L S M => match S with
  | .ref r :: S => match pz_sn r with
    | some _ => k n u L (.int 0 :: S) M
    | none => False
  | _ => False
theorem pz_s_gsc {κ : pz_K} {pc ix : Nat} (hd : decode (pz_cc κ) pc = .ok (.getfield ix, 3)) (hw : Cond.fieldLink (pz_own κ) ix "java/lang/String" "coder" "B" ∈ pz_TB) : pz_S κ pc (pz_gsc (pc + 3)) := by
  intro φ Q k u L S M h hk E p l e R s m args below meth c H locs ls P C h1 h2 hW hS hl hr
  have hG := C.2.2.2.2.2.2.2.2.2.2.2.1
  unfold pz_gsc at h
  split at h
  · next r S' =>
    split at h
    · next i hq =>
      obtain ⟨hi, rfl⟩ := pz_sn_ok hq
      have hk' := hk _ _ _ _ _ h E p l e R s m args below meth c H locs ls P C h1 h2 hW hS hl hr
      rw [List.map_cons, pz_vout (by omega)]
      exact vk_getf C.1 C.2.1 (hG.2.2.2.2.2.1.1 i hi).2.1 hS C.2.2.2.1 (C.2.2.2.2.1 _ hw) (fun _ h => h) hd hk'
    · exact h.elim
  · exact h.elim
def pz_gcs (n : Nat) : pz_I := fun Q k u L S M => k n u L (.int 1 :: S) M
theorem pz_s_gcs {κ : pz_K} {pc ix : Nat} (hd : decode (pz_cc κ) pc = .ok (.getstatic ix, 3)) (hw : Cond.fieldLink (pz_own κ) ix "java/lang/String" "COMPACT_STRINGS" "Z" ∈ pz_TB) : pz_S κ pc (pz_gcs (pc + 3)) := by
  intro φ Q k u L S M h hk E p l e R s m args below meth c H locs ls P C h1 h2 hW hS hl hr
  have hG := C.2.2.2.2.2.2.2.2.2.2.2.1
  have hk' := hk _ _ _ _ _ h E p l e R s m args below meth c H locs ls P C h1 h2 hW hS hl hr
  exact va_gets C.1 C.2.1 hG.2.2.2.1 hS C.2.2.2.1 (C.2.2.2.2.1 _ hw) (fun _ h9 => h9) hd hk'
def pz_gsq (n : Nat) : pz_I := fun Q k u L S M => k n u L (.null :: S) M ∧ k n u L (.ref 1000040 :: S) M
theorem pz_s_gsq {κ : pz_K} {pc ix : Nat} (hd : decode (pz_cc κ) pc = .ok (.getstatic ix, 3)) (hw : Cond.fieldLink (pz_own κ) ix "jdk/internal/util/Preconditions" "SIOOBE_FORMATTER" "Ljava/util/function/BiFunction;" ∈ pz_TB) : pz_S κ pc (pz_gsq (pc + 3)) := by
  intro φ Q k u L S M h hk E p l e R s m args below meth c H locs ls P C h1 h2 hW hS hl hr
  have hG := C.2.2.2.2.2.2.2.2.2.2.2.1
  rcases hG.2.2.2.2.1 with hz | hz
  · have hk' := hk _ _ _ _ _ h.1 E p l e R s m args below meth c H locs ls P C h1 h2 hW hS hl hr
    exact va_gets C.1 C.2.1 hz hS C.2.2.2.1 (C.2.2.2.2.1 _ hw) (fun _ h9 => h9) hd hk'
  · have hk' := hk _ _ _ _ _ h.2 E p l e R s m args below meth c H locs ls P C h1 h2 hW hS hl hr
    rw [List.map_cons, pz_vout (by omega)] at hk'
    exact va_gets C.1 C.2.1 hz hS C.2.2.2.1 (C.2.2.2.2.1 _ hw) (fun _ h9 => h9) hd hk'
def pz_xlen (n : Nat) : pz_I := fun Q k u L S M => match S with
  | .ref r :: S => match pz_bn r with
    | some i => k n u L (.int (nI (pz_len.getD i 0)) :: S) M
    | none => False
  | _ => False
theorem pz_s_xlen {κ : pz_K} {pc : Nat} (hd : decode (pz_cc κ) pc = .ok (.arraylength, 1)) : pz_S κ pc (pz_xlen (pc + 1)) := by
  intro φ Q k u L S M h hk E p l e R s m args below meth c H locs ls P C h1 h2 hW hS hl hr
  have hG := C.2.2.2.2.2.2.2.2.2.2.2.1
  unfold pz_xlen at h
  split at h
  · next r S' =>
    split at h
    · next i hq =>
      obtain ⟨hi, rfl⟩ := pz_bn_ok hq
      have hk' := hk _ _ _ _ _ h E p l e R s m args below meth c H locs ls P C h1 h2 hW hS hl hr
      rw [List.map_cons, pz_vout (by omega)]
      exact va_tlen C.1 C.2.1 (hG.2.2.2.2.2.1.1 i hi).2.2.2 hS (v := nI (pz_len.getD i 0)) rfl hd hk'
    · exact h.elim
  · exact h.elim
def pz_xbald (n : Nat) : pz_I := fun Q k u L S M => match S with
  | .int j :: .ref r :: S => match pz_bn r with
    | some i => vp_in j (pz_len.getD i 0) ∧ k n u L (.int ((pz_byt.getD i []).getD j.toNatClampNeg 0) :: S) M
    | none => False
  | _ => False
theorem pz_s_xbald {κ : pz_K} {pc : Nat} (hd : decode (pz_cc κ) pc = .ok (.baload, 1)) : pz_S κ pc (pz_xbald (pc + 1)) := by
  intro φ Q k u L S M h hk E p l e R s m args below meth c H locs ls P C h1 h2 hW hS hl hr
  have hG := C.2.2.2.2.2.2.2.2.2.2.2.1
  unfold pz_xbald at h
  split at h
  · next j r S' =>
    split at h
    · next i hq =>
      obtain ⟨hi, rfl⟩ := pz_bn_ok hq
      have hk' := hk _ _ _ _ _ h.2 E p l e R s m args below meth c H locs ls P C h1 h2 hW hS hl hr
      rw [List.map_cons, List.map_cons, pz_vout (by omega)]
      exact va_tb C.1 C.2.1 (hG.2.2.2.2.2.1.1 i hi).2.2.2 hS h.1 rfl hd hk'
    · exact h.elim
  · exact h.elim
/-- a method of a text outside -/
def pz_cvS (y : MethodName) (κ' : pz_K) (na n : Nat) : pz_I := fun Q k u L S M => match pz_take na [] S with
  | some (.ref r :: av, S') => match pz_sn r with
    | some _ => match Nat.ble (pz_cat S') 8 with
      | true => pz_C y κ' (.ref r :: av) M (fun v M' => k n u L (pz_ps v S') M')
      | false => False
    | none => False
  | _ => False
theorem pz_s_cvS {κ κ' : pz_K} {pc i na : Nat} {y : MethodName} (hd : decode (pz_cc κ) pc = .ok (.invokevirtual i, 3)) (hok : pz_okV (pz_own κ) i y (pz_cc κ') (pz_nL κ') (pz_rt κ') na) (hq0 : y.cls = "java/lang/String") (hdp : pz_d κ' + 1 ≤ pz_d κ) (h0 : pz_mc κ' = 0 ∧ pz_ms κ' = 0) : pz_S κ pc (pz_cvS y κ' (na + 1) (pc + 3)) := by
  intro φ Q k u L S M h hk E p l e R s m args below meth c H locs ls P C h1 h2 hW hS hl hr
  unfold pz_cvS at h
  split at h
  · next r av S' ht =>
    split at h
    · next i9 hq =>
      obtain ⟨hi, rfl⟩ := pz_sn_ok hq
      split at h
      · next hc =>
        obtain ⟨t1, t2⟩ := pz_take_0 ht
        subst t2
        obtain ⟨hall, o1, o2, o3, o4⟩ := hok
        obtain ⟨m0, s0⟩ := h0
        have hfr := C.2.2.2.2.2.2.1
        have hlo := C.2.2.2.2.2.2.2.1
        have hmc := C.2.2.2.2.2.2.2.2.1
        have hms := C.2.2.2.2.2.2.2.2.2.1
        have hG := C.2.2.2.2.2.2.2.2.2.2.2.1
        have hGI : GoodIn pz_TB (wsV (pz_own κ) i y.cls y (Cond.code y (pz_cc κ') (pz_nL κ') (pz_rt κ') :: pz_TB)) := by
          intro w hw
          rcases List.mem_append.mp hw with hw | hw
          · refine pz_good w (hall w ?_)
            simp only [List.mem_cons, List.not_mem_nil, or_false] at hw ⊢
            rcases hw with hw | hw | hw | hw
            · exact Or.inl hw
            · exact Or.inr (Or.inl hw)
            · exact Or.inr (Or.inr (Or.inl hw))
            · exact Or.inr (Or.inr (Or.inr (Or.inl hw)))
          · exact pz_goodC (hall _ (by simp)) w hw
        have hM := h l E
        rw [m0, s0] at hM
        have hx1 : (Value.ref (1000010 + i9) :: av).map (pz_v E) = .ref (E.2.2.2 (1000010 + i9)) :: av.map (pz_v E) := by rw [List.map_cons, pz_vout (by omega)]
        have hpre := pz_pre (av := .ref (1000010 + i9) :: av) C hW hS
        have hrec := vk_recv hG.2.2.2.2.2.1 hi hS
        rw [hx1] at hpre
        rw [← hq0] at hrec
        refine pz_after (mc' := 0) (ms' := 0) C h1 h2 hS hl hr (va_runV (As := av.map (pz_v E)) (b := E.2.2.2 (1000010 + i9)) ⟨C.1, C.2.1, C.2.2.1, C.2.2.2.1, C.2.2.2.2.1⟩ hM (cwV na C.2.2.2.2.1 hGI rfl m0 s0 ⟨rfl, o1, o2, o3⟩ ⟨by show pz_d κ' + 1 ≤ _; omega, by show 8 + (pz_nL κ' + 11) + 40 * pz_d κ' ≤ _; omega⟩) ⟨hpre.1, hrec, hpre.2⟩ rfl (by rw [List.length_map]; rw [List.length_cons] at t1; omega) hl.2.1 (by
          show List.map (pz_v E) ((Value.ref (1000010 + i9) :: av).reverse ++ S') = _
          rw [List.map_append, List.map_reverse, hx1, List.reverse_cons, List.append_assoc]; rfl) (by show 2 * 0 + _ ≤ 8; have := pz_cat_le (E := E) hc; omega) hd ⟨by rw [hmc]; exact h1, by rw [hms]; exact h2⟩) hk
      · exact h.elim
    · exact h.elim
  · exact h.elim
/-- the script, in the law alone -/
def pz_scr (b N : Nat) (xs : Nat → Int32) : pz_V → State → Prop := fun E s => va_X b N xs s s.heap ∧ b < E.2.2.1 ∧ E.2.2.2 1000030 = b
def pz_sclen (N n : Nat) : pz_I := fun Q k u L S M => match S with
  | .ref r :: S => match Nat.beq r 1000030 with
    | true => k n u L (.int (nI N) :: S) M
    | false => False
  | _ => False
theorem pz_s_sclen {b N : Nat} {xs : Nat → Int32} {κ : pz_K} {pc : Nat} (hd : decode (pz_cc κ) pc = .ok (.arraylength, 1)) : pz_Sp (pz_scr b N xs) κ pc (pz_sclen N (pc + 1)) := by
  intro Q k u L S M h hk E p l e R s m args below meth c H locs ls P C h1 h2 hW hS hl hr
  have hB := C.2.2.2.2.2.2.2.2.2.2.2.2
  unfold pz_sclen at h
  split at h
  · next r S' =>
    split at h
    · next hq =>
      have hq : r = 1000030 := Nat.eq_of_beq_eq_true hq
      subst hq
      have hk' := hk _ _ _ _ _ h E p l e R s m args below meth c H locs ls P C h1 h2 hW hS hl hr
      obtain ⟨hX, hb, he⟩ := hB.2
      rw [List.map_cons, pz_vout (by omega), he]
      exact va_slen C.1 C.2.1 hX (by omega) (Nat.not_le.mpr hb) hS hd hk'
    · exact h.elim
  · exact h.elim
def pz_sld (N : Nat) (xs : Nat → Int32) (n : Nat) : pz_I := fun Q k u L S M => match S with
  | .int i :: .ref r :: S => match Nat.beq r 1000030 with
    | true => vp_in i N ∧ k n u L (.int (xs i.toNatClampNeg) :: S) M
    | false => False
  | _ => False
theorem pz_s_sld {b N : Nat} {xs : Nat → Int32} {κ : pz_K} {pc : Nat} (hd : decode (pz_cc κ) pc = .ok (.iaload, 1)) : pz_Sp (pz_scr b N xs) κ pc (pz_sld N xs (pc + 1)) := by
  intro Q k u L S M h hk E p l e R s m args below meth c H locs ls P C h1 h2 hW hS hl hr
  have hB := C.2.2.2.2.2.2.2.2.2.2.2.2
  unfold pz_sld at h
  split at h
  · next i r S' =>
    split at h
    · next hq =>
      have hq : r = 1000030 := Nat.eq_of_beq_eq_true hq
      subst hq
      have hk' := hk _ _ _ _ _ h.2 E p l e R s m args below meth c H locs ls P C h1 h2 hW hS hl hr
      obtain ⟨hX, hb, he⟩ := hB.2
      rw [List.map_cons, List.map_cons, pz_vout (by omega), he]
      exact va_sld C.1 C.2.1 hX (by omega) (Nat.not_le.mpr hb) hS h.1 hd hk'
    · exact h.elim
  · exact h.elim
end
